abbrev Q_X1_start (K : KT) (lt b c ms rd m : Bd) (P : PL) : (Bd) → State → Prop := Qm K ({ frames := 2, cells := 0, slots := 0, locals := 43 } : Room) (fun a : Bd => Zw (kE K) lt b a ms rd m P) (fun a => none)
set_option maxRecDepth 100000 in
set_option maxHeartbeats 4000000 in
theorem t_X1_start (N : Nat) (lt b c ms rd m : Bd) (P : PL) (x1 x2 : Int) (K : KT) (X : Kok K cX1_start yX1_start.cls lw_g ({ frames := 2, cells := 0, slots := 0, locals := 43 } : Room) none 3) : Rn K (Q_X1_start K lt b c ms rd m P) 0 0 (f_X1_start N c P x1 x2) 0 [(0, .ref (kB K + 15)), (1, vG (kB K) x1), (2, vG (kB K) x2)] [] (Zw (kE K) lt b c ms rd m P) := by
  unfold f_X1_start
  refine r_aload_n (pc := 0) X 0 dX1_start_0 rfl rfl ?_
  refine r_gload_n (pc := 1) X 1 dX1_start_1 rfl rfl ?_
  refine r_putG (pc := 2) (ws' := (Zw (kE K) lt b (bs0 c 0 x1) ms rd m P)) X 15 0 inX1 tyX1 tyX1_ok nmX1 rfl rfl (by decide) tf_X1_21 rfl (tyX1_ok 0 (by decide)) rfl (Nat.le_of_ble_eq_true rfl) rfl dX1_start_2 ?_
  refine r_aload_n (pc := 5) X 0 dX1_start_5 rfl rfl ?_
  refine r_gload_n (pc := 6) X 2 dX1_start_6 rfl rfl ?_
  refine r_putG (pc := 7) (ws' := (Zw (kE K) lt b (bs0 (bs0 c 0 x1) 1 x2) ms rd m P)) X 15 1 inX1 tyX1 tyX1_ok nmX1 rfl rfl (by decide) tf_X1_25 rfl (tyX1_ok 1 (by decide)) rfl (Nat.le_of_ble_eq_true rfl) rfl dX1_start_7 ?_
  refine r_aload_n (pc := 10) X 0 dX1_start_10 rfl rfl ?_
  refine r_iconst (pc := 11) X 0 dX1_start_11 (by decide) ?_
  refine r_put (pc := 12) (ws' := (Zw (kE K) lt b (bs0 (bs0 (bs0 c 0 x1) 1 x2) 3 0) ms rd m P)) X 15 3 inX1 tyX1 tyX1_ok nmX1 rfl rfl (by decide) tf_X1_28 rfl (tyX1_ok 3 (by decide)) rfl rfl (Nat.le_of_ble_eq_true rfl) rfl dX1_start_12 ?_
  refine r_aload_n (pc := 15) X 0 dX1_start_15 rfl rfl ?_
  refine r_get (pc := 16) (v := .ref (kB K + 18)) X 15 5 inX1 rfl rfl (by decide) tf_X1_18 rfl dX1_start_16 ?_
  refine r_iconst (pc := 19) X 2 dX1_start_19 (by decide) ?_
  refine r_gload_n (pc := 20) X 1 dX1_start_20 rfl rfl ?_
  refine r_ckG (fun h1 => ?_)
  refine r_rf0 h1.1 ?_
  refine r_get (pc := 21) (v := vI ((gP P x1).1)) X (62 + 2 * (x1).toNat) 0 inX2 (zg_gobj h1) rfl (by decide) tf_X1_32 rfl dX1_start_21 ?_
  refine r_imul (pc := 24) X dX1_start_24 ?_
  refine r_gload_n (pc := 25) X 2 dX1_start_25 rfl rfl ?_
  refine r_ckG (fun h2 => ?_)
  refine r_rf0 h2.1 ?_
  refine r_get (pc := 26) (v := vI ((gP P x2).1)) X (62 + 2 * (x2).toNat) 0 inX2 (zg_gobj h2) rfl (by decide) tf_X1_32 rfl dX1_start_26 ?_
  refine r_imul (pc := 29) X dX1_start_29 ?_
  refine r_iconst (pc := 30) X (-1) dX1_start_30 (by decide) ?_
  refine r_callN (pc := 31) (As := [.ref (kB K + 18), vI ((2 * ((gP P x1).1)) * ((gP P x2).1)), vI (-1)]) (rest := []) (W' := fun q31_3 => (Zw (kE K) lt b (bS (bs0 (bs0 (bs0 c 0 x1) 1 x2) 3 0) 5 q31_3) ms rd m P)) (rv := fun _ => none) X dX1_start_31 rfl (fun a ha => c_X5_fillRow N (fun F0 => (Zw (kE K) lt b (bS (bs0 (bs0 (bs0 c 0 x1) 1 x2) 3 0) 5 F0) ms rd m P)) 18 (kB K + 18) 3200 3200 (c 5) ((2 * ((gP P x1).1)) * ((gP P x2).1)) (-1) K.1.2.1 K.2.2.1.1 (kE K) zl_3200 (fun F0 => Zw_d _ _ _ _ _ _ _ _) (fun _ => rfl) (fun _ _ => rfl) a ha) (fun a => Zw_d _ _ _ _ _ _ _ _) (gd_c tc_X5_fillRow) (by decide) tt_X5_fillRow tn_RX5 rfl (n := 3) (by decide) rfl (by decide) (Nat.zero_le _) (fun q31_3 eq31_3 => ?_)
  show Rn K _ 0 0 _ 34 [(0, .ref (kB K + 15)), (1, vG (kB K) x1), (2, vG (kB K) x2)] [] (Zw (kE K) lt b (bS (bs0 (bs0 (bs0 c 0 x1) 1 x2) 3 0) 5 q31_3) ms rd m P)
  exact r_vret (pc := 34) X rfl rfl (by decide) dX1_start_34
theorem c_X1_start (N : Nat) (lt b c ms rd m : Bd) (P : PL) (x1 x2 : Int) (l : Launch) (D : va_G) (E : ET) (a : Bd) (ha : f_X1_start N c P x1 x2 = some a) : Ct l yX1_start (Cond.code yX1_start cX1_start 3 none :: lw_g) ({ frames := 2, cells := 0, slots := 0, locals := 43 } : Room) D E [.ref (E.2.2.2 + 15), vG (E.2.2.2) x1, vG (E.2.2.2) x2] (Zw E lt b c ms rd m P) (Zw E lt b a ms rd m P) (none) :=
  ct_of (av := fun E => [.ref (E.2.2.2 + 15), vG (E.2.2.2) x1, vG (E.2.2.2) x2]) (W0 := fun E => Zw E lt b c ms rd m P) (W1 := fun E (a : Bd) => Zw E lt b a ms rd m P) (rw := fun E a => none) (by decide) rfl (fun E => Zw_d E lt b c ms rd m P) (fun E => by simp [lg_sl, z_cat, z_catR, z_catI, z_catL]) (fun K X => r_lv (by simp [lv_args, z_cat, z_catR, z_catI, z_catL]) (t_X1_start N lt b c ms rd m P x1 x2 K X)) l D E a ha
abbrev Q_X1_numberOf (K : KT) (lt b c ms rd m : Bd) (P : PL) : (Int) → State → Prop := Qm K ({ frames := 0, cells := 0, slots := 0, locals := 0 } : Room) (fun a : Int => Zw (kE K) lt b c ms rd m P) (fun a => some (vI a))
set_option maxRecDepth 100000 in
set_option maxHeartbeats 4000000 in
theorem t_X1_numberOf (N : Nat) (lt b c ms rd m : Bd) (P : PL) (x1 x2 x3 : Int) (K : KT) (X : Kok K cX1_numberOf yX1_numberOf.cls lw_g ({ frames := 0, cells := 0, slots := 0, locals := 0 } : Room) (some .int) 4) : Rn K (Q_X1_numberOf K lt b c ms rd m P) 0 0 (f_X1_numberOf c P x1 x2 x3) 0 [(0, .ref (kB K + 15)), (1, vI x1), (2, vI x2), (3, vI x3)] [] (Zw (kE K) lt b c ms rd m P) := by
  unfold f_X1_numberOf
  refine r_iload_n (pc := 0) X 3 dX1_numberOf_0 rfl rfl ?_
  refine r_jn (J := fun j15 => ∀ (s0_15 : Int), Rn K (Q_X1_numberOf K lt b c ms rd m P) 0 0 (j15 s0_15) 15 [(0, .ref (kB K + 15)), (1, vI x1), (2, vI x2)] [vI s0_15] (Zw (kE K) lt b c ms rd m P)) ?_ (fun j15 hj15 => ?_)
  · intro s0_15
    refine r_iload_n (pc := 15) X 1 dX1_numberOf_15 rfl rfl ?_
    refine r_iadd (pc := 16) X dX1_numberOf_16 ?_
    refine r_aload_n (pc := 17) X 0 dX1_numberOf_17 rfl rfl ?_
    refine r_get (pc := 18) (v := vG (kB K) (c 1 0)) X 15 1 inX1 rfl rfl (by decide) tf_X1_25 rfl dX1_numberOf_18 ?_
    refine r_ckG (fun h1 => ?_)
    refine r_rf0 h1.1 ?_
    refine r_get (pc := 21) (v := vI ((gP P (c 1 0)).1)) X (62 + 2 * (c 1 0).toNat) 0 inX2 (zg_gobj h1) rfl (by decide) tf_X1_32 rfl dX1_numberOf_21 ?_
    refine r_imul (pc := 24) X dX1_numberOf_24 ?_
    refine r_iload_n (pc := 25) X 2 dX1_numberOf_25 rfl rfl ?_
    refine r_iadd (pc := 26) X dX1_numberOf_26 ?_
    exact r_iret (pc := 27) X rfl rfl (by decide) dX1_numberOf_27
  refine r_ck1 (fun h2 => ?_)
  refine r_ifeq (pc := 1) X h2 dX1_numberOf_1 (tgt := 14) (by decide) (fun h3 => ?_) (fun h3 => ?_)
  · refine r_iconst (pc := 14) X 0 dX1_numberOf_14 (by decide) ?_
    refine r_sub [0, 1, 2] rfl ?_
    exact hj15 0
  · refine r_aload_n (pc := 4) X 0 dX1_numberOf_4 rfl rfl ?_
    refine r_get (pc := 5) (v := vG (kB K) (c 0 0)) X 15 0 inX1 rfl rfl (by decide) tf_X1_21 rfl dX1_numberOf_5 ?_
    refine r_ckG (fun h4 => ?_)
    refine r_rf0 h4.1 ?_
    refine r_get (pc := 8) (v := vI ((gP P (c 0 0)).1)) X (62 + 2 * (c 0 0).toNat) 0 inX2 (zg_gobj h4) rfl (by decide) tf_X1_32 rfl dX1_numberOf_8 ?_
    refine r_goto (pc := 11) X dX1_numberOf_11 (tgt := 15) (by decide) ?_
    refine r_sub [0, 1, 2] rfl ?_
    exact hj15 ((gP P (c 0 0)).1)
theorem c_X1_numberOf (N : Nat) (lt b c ms rd m : Bd) (P : PL) (x1 x2 x3 : Int) (l : Launch) (D : va_G) (E : ET) (a : Int) (ha : f_X1_numberOf c P x1 x2 x3 = some a) : Ct l yX1_numberOf (Cond.code yX1_numberOf cX1_numberOf 4 (some .int) :: lw_g) ({ frames := 0, cells := 0, slots := 0, locals := 0 } : Room) D E [.ref (E.2.2.2 + 15), vI x1, vI x2, vI x3] (Zw E lt b c ms rd m P) (Zw E lt b c ms rd m P) (some (vI a)) :=
  ct_of (av := fun E => [.ref (E.2.2.2 + 15), vI x1, vI x2, vI x3]) (W0 := fun E => Zw E lt b c ms rd m P) (W1 := fun E (a : Int) => Zw E lt b c ms rd m P) (rw := fun E a => some (vI a)) (by decide) rfl (fun E => Zw_d E lt b c ms rd m P) (fun E => by simp [lg_sl, z_cat, z_catR, z_catI, z_catL]) (fun K X => r_lv (by simp [lv_args, z_cat, z_catR, z_catI, z_catL]) (t_X1_numberOf N lt b c ms rd m P x1 x2 x3 K X)) l D E a ha
abbrev Q_X1_meet (K : KT) (lt b c ms rd m : Bd) (P : PL) : (Bd) → State → Prop := Qm K ({ frames := 0, cells := 0, slots := 0, locals := 0 } : Room) (fun a : Bd => Zw (kE K) lt b a ms rd m P) (fun a => none)
set_option maxRecDepth 100000 in
set_option maxHeartbeats 4000000 in
theorem t_X1_meet (N : Nat) (lt b c ms rd m : Bd) (P : PL) (x1 x2 x3 : Int) (K : KT) (X : Kok K cX1_meet yX1_meet.cls lw_g ({ frames := 0, cells := 0, slots := 0, locals := 0 } : Room) none 4) : Rn K (Q_X1_meet K lt b c ms rd m P) 0 0 (f_X1_meet c x1 x2 x3) 0 [(0, .ref (kB K + 15)), (1, vI x1), (2, vI x2), (3, vI x3)] [] (Zw (kE K) lt b c ms rd m P) := by
  unfold f_X1_meet
  refine r_iload_n (pc := 0) X 1 dX1_meet_0 rfl rfl ?_
  refine r_ck1 (fun h1 => ?_)
  refine r_iflt (pc := 1) X h1 dX1_meet_1 (tgt := 31) (by decide) (fun h2 => ?_) (fun h2 => ?_)
  · exact r_vret (pc := 31) X rfl rfl (by decide) dX1_meet_31
  · refine r_iload_n (pc := 4) X 1 dX1_meet_4 rfl rfl ?_
    refine r_sipush (pc := 5) X 3200 dX1_meet_5 (by decide) ?_
    refine r_icmp_ge (pc := 8) X h1 (by decide) dX1_meet_8 (tgt := 31) (by decide) (fun h3 => ?_) (fun h3 => ?_)
    · exact r_vret (pc := 31) X rfl rfl (by decide) dX1_meet_31
    · refine r_aload_n (pc := 11) X 0 dX1_meet_11 rfl rfl ?_
      refine r_get (pc := 12) (v := vI (c 3 0)) X 15 3 inX1 rfl rfl (by decide) tf_X1_28 rfl dX1_meet_12 ?_
      refine r_sipush (pc := 15) X 3200 dX1_meet_15 (by decide) ?_
      refine r_ck1 (fun h4 => ?_)
      refine r_icmp_ge (pc := 18) X h4 (by decide) dX1_meet_18 (tgt := 31) (by decide) (fun h5 => ?_) (fun h5 => ?_)
      · exact r_vret (pc := 31) X rfl rfl (by decide) dX1_meet_31
      · refine r_aload_n (pc := 21) X 0 dX1_meet_21 rfl rfl ?_
        refine r_get (pc := 22) (v := .ref (kB K + 18)) X 15 5 inX1 rfl rfl (by decide) tf_X1_18 rfl dX1_meet_22 ?_
        refine r_iload_n (pc := 25) X 1 dX1_meet_25 rfl rfl ?_
        refine r_ckA (fun h6 => ?_)
        refine r_iald (pc := 26) (f := c 5) X 18 h6 zl_3200 rfl dX1_meet_26 ?_
        refine r_iconst (pc := 27) X (-1) dX1_meet_27 (by decide) ?_
        refine r_ck1 (fun h7 => ?_)
        refine r_icmp_eq (pc := 28) X h7 (by decide) dX1_meet_28 (tgt := 32) (by decide) (fun h8 => ?_) (fun h8 => ?_)
        · refine r_aload_n (pc := 32) X 0 dX1_meet_32 rfl rfl ?_
          refine r_get (pc := 33) (v := .ref (kB K + 18)) X 15 5 inX1 rfl rfl (by decide) tf_X1_18 rfl dX1_meet_33 ?_
          refine r_iload_n (pc := 36) X 1 dX1_meet_36 rfl rfl ?_
          refine r_iload_n (pc := 37) X 2 dX1_meet_37 rfl rfl ?_
          refine r_iast (pc := 38) (f := c 5) (ws' := (Zw (kE K) lt b (bS c 5 (aS (c 5) x1 x2)) ms rd m P)) X 18 h6 zl_3200 rfl rfl dX1_meet_38 ?_
          refine r_aload_n (pc := 39) X 0 dX1_meet_39 rfl rfl ?_
          refine r_get (pc := 40) (v := .ref (kB K + 16)) X 15 2 inX1 rfl rfl (by decide) tf_X1_9 rfl dX1_meet_40 ?_
          refine r_aload_n (pc := 43) X 0 dX1_meet_43 rfl rfl ?_
          refine r_get (pc := 44) (v := vI (c 3 0)) X 15 3 inX1 rfl rfl (by decide) tf_X1_28 rfl dX1_meet_44 ?_
          refine r_iload_n (pc := 47) X 1 dX1_meet_47 rfl rfl ?_
          refine r_ckA (fun h9 => ?_)
          refine r_iast (pc := 48) (f := c 2) (ws' := (Zw (kE K) lt b (bS (bS c 2 (aS (c 2) (c 3 0) x1)) 5 (aS (c 5) x1 x2)) ms rd m P)) X 16 h9 zl_3200 rfl rfl dX1_meet_48 ?_
          refine r_aload_n (pc := 49) X 0 dX1_meet_49 rfl rfl ?_
          refine r_get (pc := 50) (v := .ref (kB K + 17)) X 15 4 inX1 rfl rfl (by decide) tf_X1_15 rfl dX1_meet_50 ?_
          refine r_aload_n (pc := 53) X 0 dX1_meet_53 rfl rfl ?_
          refine r_get (pc := 54) (v := vI (c 3 0)) X 15 3 inX1 rfl rfl (by decide) tf_X1_28 rfl dX1_meet_54 ?_
          refine r_iload_n (pc := 57) X 3 dX1_meet_57 rfl rfl ?_
          refine r_iast (pc := 58) (f := c 4) (ws' := (Zw (kE K) lt b (bS (bS (bS c 2 (aS (c 2) (c 3 0) x1)) 4 (aS (c 4) (c 3 0) x3)) 5 (aS (c 5) x1 x2)) ms rd m P)) X 17 h9 zl_3200 rfl rfl dX1_meet_58 ?_
          refine r_aload_n (pc := 59) X 0 dX1_meet_59 rfl rfl ?_
          refine r_dup (pc := 60) X dX1_meet_60 rfl ?_
          refine r_get (pc := 61) (v := vI (c 3 0)) X 15 3 inX1 rfl rfl (by decide) tf_X1_28 rfl dX1_meet_61 ?_
          refine r_iconst (pc := 64) X 1 dX1_meet_64 (by decide) ?_
          refine r_iadd (pc := 65) X dX1_meet_65 ?_
          refine r_put (pc := 66) (ws' := (Zw (kE K) lt b (bS (bS (bs0 (bS c 2 (aS (c 2) (c 3 0) x1)) 3 ((c 3 0) + 1)) 4 (aS (c 4) (c 3 0) x3)) 5 (aS (c 5) x1 x2)) ms rd m P)) X 15 3 inX1 tyX1 tyX1_ok nmX1 rfl rfl (by decide) tf_X1_28 rfl (tyX1_ok 3 (by decide)) rfl rfl (Nat.le_of_ble_eq_true rfl) rfl dX1_meet_66 ?_
          exact r_vret (pc := 69) X rfl rfl (by decide) dX1_meet_69
        · exact r_vret (pc := 31) X rfl rfl (by decide) dX1_meet_31
theorem c_X1_meet (N : Nat) (lt b c ms rd m : Bd) (P : PL) (x1 x2 x3 : Int) (l : Launch) (D : va_G) (E : ET) (a : Bd) (ha : f_X1_meet c x1 x2 x3 = some a) : Ct l yX1_meet (Cond.code yX1_meet cX1_meet 4 none :: lw_g) ({ frames := 0, cells := 0, slots := 0, locals := 0 } : Room) D E [.ref (E.2.2.2 + 15), vI x1, vI x2, vI x3] (Zw E lt b c ms rd m P) (Zw E lt b a ms rd m P) (none) :=
  ct_of (av := fun E => [.ref (E.2.2.2 + 15), vI x1, vI x2, vI x3]) (W0 := fun E => Zw E lt b c ms rd m P) (W1 := fun E (a : Bd) => Zw E lt b a ms rd m P) (rw := fun E a => none) (by decide) rfl (fun E => Zw_d E lt b c ms rd m P) (fun E => by simp [lg_sl, z_cat, z_catR, z_catI, z_catL]) (fun K X => r_lv (by simp [lv_args, z_cat, z_catR, z_catI, z_catL]) (t_X1_meet N lt b c ms rd m P x1 x2 x3 K X)) l D E a ha
abbrev Q_X1_isAbout (K : KT) (lt b c ms rd m : Bd) (P : PL) : (Int) → State → Prop := Qm K ({ frames := 0, cells := 0, slots := 0, locals := 0 } : Room) (fun a : Int => Zw (kE K) lt b c ms rd m P) (fun a => some (vI a))
set_option maxRecDepth 100000 in
set_option maxHeartbeats 4000000 in
theorem t_X1_isAbout (N : Nat) (lt b c ms rd m : Bd) (P : PL) (x1 : Int) (K : KT) (X : Kok K cX1_isAbout yX1_isAbout.cls lw_g ({ frames := 0, cells := 0, slots := 0, locals := 0 } : Room) (some .boolean) 2) : Rn K (Q_X1_isAbout K lt b c ms rd m P) 0 0 (f_X1_isAbout c P x1) 0 [(0, .ref (kB K + 15)), (1, vI x1)] [] (Zw (kE K) lt b c ms rd m P) := by
  unfold f_X1_isAbout
  refine r_iload_n (pc := 0) X 1 dX1_isAbout_0 rfl rfl ?_
  refine r_aload_n (pc := 1) X 0 dX1_isAbout_1 rfl rfl ?_
  refine r_get (pc := 2) (v := vG (kB K) (c 0 0)) X 15 0 inX1 rfl rfl (by decide) tf_X1_21 rfl dX1_isAbout_2 ?_
  refine r_ckG (fun h1 => ?_)
  refine r_rf0 h1.1 ?_
  refine r_get (pc := 5) (v := vI ((gP P (c 0 0)).1)) X (62 + 2 * (c 0 0).toNat) 0 inX2 (zg_gobj h1) rfl (by decide) tf_X1_32 rfl dX1_isAbout_5 ?_
  refine r_aload_n (pc := 8) X 0 dX1_isAbout_8 rfl rfl ?_
  refine r_get (pc := 9) (v := vG (kB K) (c 1 0)) X 15 1 inX1 rfl rfl (by decide) tf_X1_25 rfl dX1_isAbout_9 ?_
  refine r_ckG (fun h2 => ?_)
  refine r_rf0 h2.1 ?_
  refine r_get (pc := 12) (v := vI ((gP P (c 1 0)).1)) X (62 + 2 * (c 1 0).toNat) 0 inX2 (zg_gobj h2) rfl (by decide) tf_X1_32 rfl dX1_isAbout_12 ?_
  refine r_imul (pc := 15) X dX1_isAbout_15 ?_
  refine r_ck1 (fun h3 => ?_)
  refine r_ck1 (fun h4 => ?_)
  refine r_jn (J := fun j24 => ∀ (s_24 : Int), Rn K (Q_X1_isAbout K lt b c ms rd m P) 0 0 (j24 s_24) 24 [(0, .ref (kB K + 15)), (1, vI x1)] [vI s_24] (Zw (kE K) lt b c ms rd m P)) ?_ (fun j24 hj24 => ?_)
  · intro s_24
    refine r_ckB (fun h6 => ?_)
    exact r_zret (pc := 24) X h6 rfl rfl (by decide) dX1_isAbout_24
  refine r_eq (z_ite j24) ?_
  refine r_icmp_lt (pc := 16) X h3 h4 dX1_isAbout_16 (tgt := 23) (by decide) (fun h5 => ?_) (fun h5 => ?_)
  · refine r_iconst (pc := 23) X 0 dX1_isAbout_23 (by decide) ?_
    exact hj24 0
  · refine r_iconst (pc := 19) X 1 dX1_isAbout_19 (by decide) ?_
    refine r_goto (pc := 20) X dX1_isAbout_20 (tgt := 24) (by decide) ?_
    exact hj24 1
theorem c_X1_isAbout (N : Nat) (lt b c ms rd m : Bd) (P : PL) (x1 : Int) (l : Launch) (D : va_G) (E : ET) (a : Int) (ha : f_X1_isAbout c P x1 = some a) : Ct l yX1_isAbout (Cond.code yX1_isAbout cX1_isAbout 2 (some .boolean) :: lw_g) ({ frames := 0, cells := 0, slots := 0, locals := 0 } : Room) D E [.ref (E.2.2.2 + 15), vI x1] (Zw E lt b c ms rd m P) (Zw E lt b c ms rd m P) (some (vI a)) :=
  ct_of (av := fun E => [.ref (E.2.2.2 + 15), vI x1]) (W0 := fun E => Zw E lt b c ms rd m P) (W1 := fun E (a : Int) => Zw E lt b c ms rd m P) (rw := fun E a => some (vI a)) (by decide) rfl (fun E => Zw_d E lt b c ms rd m P) (fun E => by simp [lg_sl, z_cat, z_catR, z_catI, z_catL]) (fun K X => r_lv (by simp [lv_args, z_cat, z_catR, z_catI, z_catL]) (t_X1_isAbout N lt b c ms rd m P x1 K X)) l D E a ha
abbrev Q_X1_leftOf (K : KT) (lt b c ms rd m : Bd) (P : PL) : (Int) → State → Prop := Qm K ({ frames := 0, cells := 0, slots := 0, locals := 0 } : Room) (fun a : Int => Zw (kE K) lt b c ms rd m P) (fun a => some (vI a))
set_option maxRecDepth 100000 in
set_option maxHeartbeats 4000000 in
theorem t_X1_leftOf (N : Nat) (lt b c ms rd m : Bd) (P : PL) (x1 : Int) (K : KT) (X : Kok K cX1_leftOf yX1_leftOf.cls lw_g ({ frames := 0, cells := 0, slots := 0, locals := 0 } : Room) (some .int) 3) : Rn K (Q_X1_leftOf K lt b c ms rd m P) 0 0 (f_X1_leftOf c P x1) 0 [(0, .ref (kB K + 15)), (1, vI x1)] [] (Zw (kE K) lt b c ms rd m P) := by
  unfold f_X1_leftOf
  refine r_aload_n (pc := 0) X 0 dX1_leftOf_0 rfl rfl ?_
  refine r_get (pc := 1) (v := vG (kB K) (c 1 0)) X 15 1 inX1 rfl rfl (by decide) tf_X1_25 rfl dX1_leftOf_1 ?_
  refine r_ckG (fun h1 => ?_)
  refine r_rf0 h1.1 ?_
  refine r_get (pc := 4) (v := vI ((gP P (c 1 0)).1)) X (62 + 2 * (c 1 0).toNat) 0 inX2 (zg_gobj h1) rfl (by decide) tf_X1_32 rfl dX1_leftOf_4 ?_
  refine r_jn (J := fun j23 => ∀ (s0_23 : Int), Rn K (Q_X1_leftOf K lt b c ms rd m P) 0 0 (j23 s0_23) 23 [(0, .ref (kB K + 15))] [vI s0_23] (Zw (kE K) lt b c ms rd m P)) ?_ (fun j23 hj23 => ?_)
  · intro s0_23
    refine r_istore_n (pc := 23) (lv' := [(0, .ref (kB K + 15)), (2, vI s0_23)]) X [1, 0] dX1_leftOf_23 rfl (by decide) rfl ?_
    refine r_iload_n (pc := 24) X 1 dX1_leftOf_24 rfl rfl ?_
    refine r_aload_n (pc := 25) X 0 dX1_leftOf_25 rfl rfl ?_
    refine r_get (pc := 26) (v := vG (kB K) (c 0 0)) X 15 0 inX1 rfl rfl (by decide) tf_X1_21 rfl dX1_leftOf_26 ?_
    refine r_ckG (fun h2 => ?_)
    refine r_rf0 h2.1 ?_
    refine r_get (pc := 29) (v := vI ((gP P (c 0 0)).1)) X (62 + 2 * (c 0 0).toNat) 0 inX2 (zg_gobj h2) rfl (by decide) tf_X1_32 rfl dX1_leftOf_29 ?_
    refine r_ck1 (fun h3 => ?_)
    refine r_ck1 (fun h4 => ?_)
    refine r_icmp_lt (pc := 32) X h3 h4 dX1_leftOf_32 (tgt := 47) (by decide) (fun h5 => ?_) (fun h5 => ?_)
    · refine r_iload_n (pc := 47) X 1 dX1_leftOf_47 rfl rfl ?_
      exact r_iret (pc := 48) X rfl rfl (by decide) dX1_leftOf_48
    · refine r_iload_n (pc := 35) X 1 dX1_leftOf_35 rfl rfl ?_
      refine r_aload_n (pc := 36) X 0 dX1_leftOf_36 rfl rfl ?_
      refine r_get (pc := 37) (v := vG (kB K) (c 0 0)) X 15 0 inX1 rfl rfl (by decide) tf_X1_21 rfl dX1_leftOf_37 ?_
      refine r_rf0 h2.1 ?_
      refine r_get (pc := 40) (v := vI ((gP P (c 0 0)).1)) X (62 + 2 * (c 0 0).toNat) 0 inX2 (zg_gobj h2) rfl (by decide) tf_X1_32 rfl dX1_leftOf_40 ?_
      refine r_isub (pc := 43) X dX1_leftOf_43 ?_
      refine r_goto (pc := 44) X dX1_leftOf_44 (tgt := 48) (by decide) ?_
      exact r_iret (pc := 48) X rfl rfl (by decide) dX1_leftOf_48
  refine r_ck1 (fun h6 => ?_)
  refine r_ifne (pc := 7) X h6 dX1_leftOf_7 (tgt := 14) (by decide) (fun h7 => ?_) (fun h7 => ?_)
  · refine r_iload_n (pc := 14) X 1 dX1_leftOf_14 rfl rfl ?_
    refine r_aload_n (pc := 15) X 0 dX1_leftOf_15 rfl rfl ?_
    refine r_get (pc := 16) (v := vG (kB K) (c 1 0)) X 15 1 inX1 rfl rfl (by decide) tf_X1_25 rfl dX1_leftOf_16 ?_
    refine r_rf0 h1.1 ?_
    refine r_get (pc := 19) (v := vI ((gP P (c 1 0)).1)) X (62 + 2 * (c 1 0).toNat) 0 inX2 (zg_gobj h1) rfl (by decide) tf_X1_32 rfl dX1_leftOf_19 ?_
    refine r_ck1 (fun h8 => ?_)
    refine r_ckZ (fun h9 => ?_)
    refine r_idiv (pc := 22) X h8 h6 h9 dX1_leftOf_22 ?_
    refine r_sub [0] rfl ?_
    exact hj23 (Int.tdiv x1 ((gP P (c 1 0)).1))
  · refine r_iconst (pc := 10) X 0 dX1_leftOf_10 (by decide) ?_
    refine r_goto (pc := 11) X dX1_leftOf_11 (tgt := 23) (by decide) ?_
    refine r_sub [0] rfl ?_
    exact hj23 0
theorem c_X1_leftOf (N : Nat) (lt b c ms rd m : Bd) (P : PL) (x1 : Int) (l : Launch) (D : va_G) (E : ET) (a : Int) (ha : f_X1_leftOf c P x1 = some a) : Ct l yX1_leftOf (Cond.code yX1_leftOf cX1_leftOf 3 (some .int) :: lw_g) ({ frames := 0, cells := 0, slots := 0, locals := 0 } : Room) D E [.ref (E.2.2.2 + 15), vI x1] (Zw E lt b c ms rd m P) (Zw E lt b c ms rd m P) (some (vI a)) :=
  ct_of (av := fun E => [.ref (E.2.2.2 + 15), vI x1]) (W0 := fun E => Zw E lt b c ms rd m P) (W1 := fun E (a : Int) => Zw E lt b c ms rd m P) (rw := fun E a => some (vI a)) (by decide) rfl (fun E => Zw_d E lt b c ms rd m P) (fun E => by simp [lg_sl, z_cat, z_catR, z_catI, z_catL]) (fun K X => r_lv (by simp [lv_args, z_cat, z_catR, z_catI, z_catL]) (t_X1_leftOf N lt b c ms rd m P x1 K X)) l D E a ha
abbrev Q_X1_rightOf (K : KT) (lt b c ms rd m : Bd) (P : PL) : (Int) → State → Prop := Qm K ({ frames := 0, cells := 0, slots := 0, locals := 0 } : Room) (fun a : Int => Zw (kE K) lt b c ms rd m P) (fun a => some (vI a))
set_option maxRecDepth 100000 in
set_option maxHeartbeats 4000000 in
theorem t_X1_rightOf (N : Nat) (lt b c ms rd m : Bd) (P : PL) (x1 : Int) (K : KT) (X : Kok K cX1_rightOf yX1_rightOf.cls lw_g ({ frames := 0, cells := 0, slots := 0, locals := 0 } : Room) (some .int) 2) : Rn K (Q_X1_rightOf K lt b c ms rd m P) 0 0 (f_X1_rightOf c P x1) 0 [(0, .ref (kB K + 15)), (1, vI x1)] [] (Zw (kE K) lt b c ms rd m P) := by
  unfold f_X1_rightOf
  refine r_aload_n (pc := 0) X 0 dX1_rightOf_0 rfl rfl ?_
  refine r_get (pc := 1) (v := vG (kB K) (c 1 0)) X 15 1 inX1 rfl rfl (by decide) tf_X1_25 rfl dX1_rightOf_1 ?_
  refine r_ckG (fun h1 => ?_)
  refine r_rf0 h1.1 ?_
  refine r_get (pc := 4) (v := vI ((gP P (c 1 0)).1)) X (62 + 2 * (c 1 0).toNat) 0 inX2 (zg_gobj h1) rfl (by decide) tf_X1_32 rfl dX1_rightOf_4 ?_
  refine r_ck1 (fun h2 => ?_)
  refine r_ifne (pc := 7) X h2 dX1_rightOf_7 (tgt := 14) (by decide) (fun h3 => ?_) (fun h3 => ?_)
  · refine r_iload_n (pc := 14) X 1 dX1_rightOf_14 rfl rfl ?_
    refine r_aload_n (pc := 15) X 0 dX1_rightOf_15 rfl rfl ?_
    refine r_get (pc := 16) (v := vG (kB K) (c 1 0)) X 15 1 inX1 rfl rfl (by decide) tf_X1_25 rfl dX1_rightOf_16 ?_
    refine r_rf0 h1.1 ?_
    refine r_get (pc := 19) (v := vI ((gP P (c 1 0)).1)) X (62 + 2 * (c 1 0).toNat) 0 inX2 (zg_gobj h1) rfl (by decide) tf_X1_32 rfl dX1_rightOf_19 ?_
    refine r_ck1 (fun h4 => ?_)
    refine r_ckZ (fun h5 => ?_)
    refine r_irem (pc := 22) X h4 h2 h5 dX1_rightOf_22 ?_
    exact r_iret (pc := 23) X rfl rfl (by decide) dX1_rightOf_23
  · refine r_iconst (pc := 10) X 0 dX1_rightOf_10 (by decide) ?_
    refine r_goto (pc := 11) X dX1_rightOf_11 (tgt := 23) (by decide) ?_
    exact r_iret (pc := 23) X rfl rfl (by decide) dX1_rightOf_23
theorem c_X1_rightOf (N : Nat) (lt b c ms rd m : Bd) (P : PL) (x1 : Int) (l : Launch) (D : va_G) (E : ET) (a : Int) (ha : f_X1_rightOf c P x1 = some a) : Ct l yX1_rightOf (Cond.code yX1_rightOf cX1_rightOf 2 (some .int) :: lw_g) ({ frames := 0, cells := 0, slots := 0, locals := 0 } : Room) D E [.ref (E.2.2.2 + 15), vI x1] (Zw E lt b c ms rd m P) (Zw E lt b c ms rd m P) (some (vI a)) :=
  ct_of (av := fun E => [.ref (E.2.2.2 + 15), vI x1]) (W0 := fun E => Zw E lt b c ms rd m P) (W1 := fun E (a : Int) => Zw E lt b c ms rd m P) (rw := fun E a => some (vI a)) (by decide) rfl (fun E => Zw_d E lt b c ms rd m P) (fun E => by simp [lg_sl, z_cat, z_catR, z_catI, z_catL]) (fun K X => r_lv (by simp [lv_args, z_cat, z_catR, z_catI, z_catL]) (t_X1_rightOf N lt b c ms rd m P x1 K X)) l D E a ha
abbrev Q_X1_headsGo (K : KT) (lt b c ms rd m : Bd) (P : PL) : (Int) → State → Prop := Qm K ({ frames := 0, cells := 0, slots := 0, locals := 0 } : Room) (fun a : Int => Zw (kE K) lt b c ms rd m P) (fun a => some (vI a))
set_option maxRecDepth 100000 in
set_option maxHeartbeats 4000000 in
theorem t_X1_headsGo (N : Nat) (lt b c ms rd m : Bd) (P : PL) (x0 x1 x2 : Int) (K : KT) (X : Kok K cX1_headsGo yX1_headsGo.cls lw_g ({ frames := 0, cells := 0, slots := 0, locals := 0 } : Room) (some .boolean) 3) : Rn K (Q_X1_headsGo K lt b c ms rd m P) 0 0 (f_X1_headsGo x0 x1 x2) 0 [(0, vI x0), (1, vI x1), (2, vI x2)] [] (Zw (kE K) lt b c ms rd m P) := by
  unfold f_X1_headsGo
  refine r_iload_n (pc := 0) X 0 dX1_headsGo_0 rfl rfl ?_
  refine r_iload_n (pc := 1) X 1 dX1_headsGo_1 rfl rfl ?_
  refine r_ck1 (fun h1 => ?_)
  refine r_ck1 (fun h2 => ?_)
  refine r_icmp_ne (pc := 2) X h1 h2 dX1_headsGo_2 (tgt := 7) (by decide) (fun h3 => ?_) (fun h3 => ?_)
  · refine r_iload_n (pc := 7) X 2 dX1_headsGo_7 rfl rfl ?_
    refine r_iconst (pc := 8) X 3 dX1_headsGo_8 (by decide) ?_
    refine r_jn (J := fun j23 => Rn K (Q_X1_headsGo K lt b c ms rd m P) 0 0 j23 23 [(0, vI x0), (1, vI x1), (2, vI x2)] [] (Zw (kE K) lt b c ms rd m P)) ?_ (fun j23 hj23 => ?_)
    · skip
      refine r_iload_n (pc := 23) X 0 dX1_headsGo_23 rfl rfl ?_
      refine r_iconst (pc := 24) X 1 dX1_headsGo_24 (by decide) ?_
      refine r_jn (J := fun j49 => Rn K (Q_X1_headsGo K lt b c ms rd m P) 0 0 j49 49 [(0, vI x0), (1, vI x1), (2, vI x2)] [] (Zw (kE K) lt b c ms rd m P)) ?_ (fun j49 hj49 => ?_)
      · skip
        refine r_iload_n (pc := 49) X 2 dX1_headsGo_49 rfl rfl ?_
        refine r_iconst (pc := 50) X 4 dX1_headsGo_50 (by decide) ?_
        refine r_ck1 (fun h4 => ?_)
        refine r_icmp_ne (pc := 51) X h4 (by decide) dX1_headsGo_51 (tgt := 68) (by decide) (fun h5 => ?_) (fun h5 => ?_)
        · refine r_iconst (pc := 68) X 0 dX1_headsGo_68 (by decide) ?_
          exact r_zret (pc := 69) X (by decide) rfl rfl (by decide) dX1_headsGo_69
        · refine r_iload_n (pc := 54) X 0 dX1_headsGo_54 rfl rfl ?_
          refine r_iconst (pc := 55) X 2 dX1_headsGo_55 (by decide) ?_
          refine r_icmp_ne (pc := 56) X h1 (by decide) dX1_headsGo_56 (tgt := 68) (by decide) (fun h6 => ?_) (fun h6 => ?_)
          · refine r_iconst (pc := 68) X 0 dX1_headsGo_68 (by decide) ?_
            exact r_zret (pc := 69) X (by decide) rfl rfl (by decide) dX1_headsGo_69
          · refine r_iload_n (pc := 59) X 1 dX1_headsGo_59 rfl rfl ?_
            refine r_iconst (pc := 60) X 1 dX1_headsGo_60 (by decide) ?_
            refine r_icmp_ne (pc := 61) X h2 (by decide) dX1_headsGo_61 (tgt := 68) (by decide) (fun h7 => ?_) (fun h7 => ?_)
            · refine r_iconst (pc := 68) X 0 dX1_headsGo_68 (by decide) ?_
              exact r_zret (pc := 69) X (by decide) rfl rfl (by decide) dX1_headsGo_69
            · refine r_iconst (pc := 64) X 1 dX1_headsGo_64 (by decide) ?_
              refine r_goto (pc := 65) X dX1_headsGo_65 (tgt := 69) (by decide) ?_
              exact r_zret (pc := 69) X (by decide) rfl rfl (by decide) dX1_headsGo_69
      refine r_icmp_ne (pc := 25) X h1 (by decide) dX1_headsGo_25 (tgt := 49) (by decide) (fun h8 => ?_) (fun h8 => ?_)
      · exact hj49
      · refine r_iload_n (pc := 28) X 1 dX1_headsGo_28 rfl rfl ?_
        refine r_iconst (pc := 29) X 2 dX1_headsGo_29 (by decide) ?_
        refine r_icmp_ne (pc := 30) X h2 (by decide) dX1_headsGo_30 (tgt := 49) (by decide) (fun h9 => ?_) (fun h9 => ?_)
        · exact hj49
        · refine r_iload_n (pc := 33) X 2 dX1_headsGo_33 rfl rfl ?_
          refine r_iconst (pc := 34) X 1 dX1_headsGo_34 (by decide) ?_
          refine r_ck1 (fun h10 => ?_)
          refine r_icmp_eq (pc := 35) X h10 (by decide) dX1_headsGo_35 (tgt := 47) (by decide) (fun h11 => ?_) (fun h11 => ?_)
          · refine r_iconst (pc := 47) X 0 dX1_headsGo_47 (by decide) ?_
            exact r_zret (pc := 48) X (by decide) rfl rfl (by decide) dX1_headsGo_48
          · refine r_iload_n (pc := 38) X 2 dX1_headsGo_38 rfl rfl ?_
            refine r_iconst (pc := 39) X 3 dX1_headsGo_39 (by decide) ?_
            refine r_icmp_eq (pc := 40) X h10 (by decide) dX1_headsGo_40 (tgt := 47) (by decide) (fun h12 => ?_) (fun h12 => ?_)
            · refine r_iconst (pc := 47) X 0 dX1_headsGo_47 (by decide) ?_
              exact r_zret (pc := 48) X (by decide) rfl rfl (by decide) dX1_headsGo_48
            · refine r_iconst (pc := 43) X 1 dX1_headsGo_43 (by decide) ?_
              refine r_goto (pc := 44) X dX1_headsGo_44 (tgt := 48) (by decide) ?_
              exact r_zret (pc := 48) X (by decide) rfl rfl (by decide) dX1_headsGo_48
    refine r_ck1 (fun h13 => ?_)
    refine r_icmp_eq (pc := 9) X h13 (by decide) dX1_headsGo_9 (tgt := 23) (by decide) (fun h14 => ?_) (fun h14 => ?_)
    · exact hj23
    · refine r_iload_n (pc := 12) X 0 dX1_headsGo_12 rfl rfl ?_
      refine r_ifeq (pc := 13) X h1 dX1_headsGo_13 (tgt := 21) (by decide) (fun h15 => ?_) (fun h15 => ?_)
      · refine r_iconst (pc := 21) X 1 dX1_headsGo_21 (by decide) ?_
        exact r_zret (pc := 22) X (by decide) rfl rfl (by decide) dX1_headsGo_22
      · refine r_iload_n (pc := 16) X 1 dX1_headsGo_16 rfl rfl ?_
        refine r_iconst (pc := 17) X 3 dX1_headsGo_17 (by decide) ?_
        refine r_icmp_ne (pc := 18) X h2 (by decide) dX1_headsGo_18 (tgt := 23) (by decide) (fun h16 => ?_) (fun h16 => ?_)
        · exact hj23
        · refine r_iconst (pc := 21) X 1 dX1_headsGo_21 (by decide) ?_
          exact r_zret (pc := 22) X (by decide) rfl rfl (by decide) dX1_headsGo_22
  · refine r_iconst (pc := 5) X 1 dX1_headsGo_5 (by decide) ?_
    exact r_zret (pc := 6) X (by decide) rfl rfl (by decide) dX1_headsGo_6
theorem c_X1_headsGo (N : Nat) (lt b c ms rd m : Bd) (P : PL) (x0 x1 x2 : Int) (l : Launch) (D : va_G) (E : ET) (a : Int) (ha : f_X1_headsGo x0 x1 x2 = some a) : Ct l yX1_headsGo (Cond.code yX1_headsGo cX1_headsGo 3 (some .boolean) :: lw_g) ({ frames := 0, cells := 0, slots := 0, locals := 0 } : Room) D E [vI x0, vI x1, vI x2] (Zw E lt b c ms rd m P) (Zw E lt b c ms rd m P) (some (vI a)) :=
  ct_of (av := fun E => [vI x0, vI x1, vI x2]) (W0 := fun E => Zw E lt b c ms rd m P) (W1 := fun E (a : Int) => Zw E lt b c ms rd m P) (rw := fun E a => some (vI a)) (by decide) rfl (fun E => Zw_d E lt b c ms rd m P) (fun E => by simp [lg_sl, z_cat, z_catR, z_catI, z_catL]) (fun K X => r_lv (by simp [lv_args, z_cat, z_catR, z_catI, z_catL]) (t_X1_headsGo N lt b c ms rd m P x0 x1 x2 K X)) l D E a ha
abbrev Q_X1_meetParts (K : KT) (lt b c ms rd m : Bd) (P : PL) : (Bd) → State → Prop := Qm K ({ frames := 3, cells := 0, slots := 0, locals := 63 } : Room) (fun a : Bd => Zw (kE K) lt b a ms rd m P) (fun a => none)
set_option maxRecDepth 100000 in
set_option maxHeartbeats 4000000 in
theorem t_X1_meetParts_L35 (N : Nat) (lt b c ms rd m : Bd) (P : PL) (x1 x2 x3 x4 x5 x6 : Int) (K : KT) (X : Kok K cX1_meetParts yX1_meetParts.cls lw_g ({ frames := 3, cells := 0, slots := 0, locals := 63 } : Room) none 9) (k : Bd → Option (Bd)) (hk : ∀ (c1 : Bd), Rn K (Q_X1_meetParts K lt b c ms rd m P) 0 0 (k c1) 116 [] [] (Zw (kE K) lt b c1 ms rd m P)) : ∀ (n : Nat) (x7 : Int) (c1 : Bd), Rn K (Q_X1_meetParts K lt b c ms rd m P) 0 0 (f_X1_meetParts_L35 P x1 x2 x3 x4 x5 x6 k n x7 c1) 35 [(0, .ref (kB K + 15)), (1, vI x1), (2, vI x2), (3, vI x3), (4, vI x4), (5, vI x5), (6, vI x6), (7, vI x7)] [] (Zw (kE K) lt b c1 ms rd m P) := by
  intro n
  induction n with
  | zero =>
    intro x7 c1
    rw [f_X1_meetParts_L35]
    exact r_none
  | succ n ih =>
    intro x7 c1
    rw [f_X1_meetParts_L35]
    refine r_iload (pc := 35) X 7 dX1_meetParts_35 rfl ?_
    refine r_iload (pc := 37) X 6 dX1_meetParts_37 rfl ?_
    refine r_ck1 (fun h6 => ?_)
    refine r_ck1 (fun h7 => ?_)
    refine r_icmp_ge (pc := 39) X h6 h7 dX1_meetParts_39 (tgt := 116) (by decide) (fun h8 => ?_) (fun h8 => ?_)
    · refine r_sub [] rfl ?_
      exact hk c1
    · refine r_aload_n (pc := 42) X 0 dX1_meetParts_42 rfl rfl ?_
      refine r_iload_n (pc := 43) X 3 dX1_meetParts_43 rfl rfl ?_
      refine r_callV (pc := 44) (q0 := 15) (ci := 1) (As := [vI x3]) (rest := []) (W' := fun q44_9 => (Zw (kE K) lt b c1 ms rd m P)) (rv := fun q44_9 => some (vI q44_9)) X dX1_meetParts_44 rfl (fun a ha => c_X1_isAbout N lt b c1 ms rd m P x3 K.1.2.1 K.2.2.1.1 (kE K) a ha) (fun a => Zw_d _ _ _ _ _ _ _ _) gd_X1_53 rfl (n := 1) (by decide) rfl (by decide) rfl rfl rfl (Nat.zero_le _) (fun q44_9 eq44_9 => ?_)
      show Rn K _ 0 0 _ 47 [(0, .ref (kB K + 15)), (1, vI x1), (2, vI x2), (3, vI x3), (4, vI x4), (5, vI x5), (6, vI x6), (7, vI x7)] [vI q44_9] (Zw (kE K) lt b c1 ms rd m P)
      refine r_iload_n (pc := 47) X 2 dX1_meetParts_47 rfl rfl ?_
      refine r_jn (J := fun j61 => ∀ (s1_61 : Int), Rn K (Q_X1_meetParts K lt b c ms rd m P) 0 0 (j61 s1_61) 61 [(0, .ref (kB K + 15)), (1, vI x1), (2, vI x2), (3, vI x3), (4, vI x4), (5, vI x5), (6, vI x6), (7, vI x7)] [vI s1_61, vI q44_9] (Zw (kE K) lt b c1 ms rd m P)) ?_ (fun j61 hj61 => ?_)
      · intro s1_61
        refine r_jn (J := fun j69 => ∀ (s0_69 : Int), Rn K (Q_X1_meetParts K lt b c ms rd m P) 0 0 (j69 s0_69) 69 [(0, .ref (kB K + 15)), (1, vI x1), (2, vI x2), (3, vI x3), (4, vI x4), (5, vI x5), (6, vI x6), (7, vI x7)] [vI s0_69] (Zw (kE K) lt b c1 ms rd m P)) ?_ (fun j69 hj69 => ?_)
        · intro s0_69
          refine r_istore (pc := 69) (lv' := [(0, .ref (kB K + 15)), (1, vI x1), (2, vI x2), (3, vI x3), (4, vI x4), (5, vI x5), (6, vI x6), (7, vI x7), (8, vI s0_69)]) X [1, 2, 3, 4, 5, 6, 7, 8, 0] dX1_meetParts_69 (by decide) rfl ?_
          refine r_aload_n (pc := 71) X 0 dX1_meetParts_71 rfl rfl ?_
          refine r_aload_n (pc := 72) X 0 dX1_meetParts_72 rfl rfl ?_
          refine r_aload_n (pc := 73) X 0 dX1_meetParts_73 rfl rfl ?_
          refine r_get (pc := 74) (v := vG (kB K) (c1 0 0)) X 15 0 inX1 rfl rfl (by decide) tf_X1_21 rfl dX1_meetParts_74 ?_
          refine r_iload (pc := 77) X 4 dX1_meetParts_77 rfl ?_
          refine r_iload (pc := 79) X 7 dX1_meetParts_79 rfl ?_
          refine r_ckG (fun h10 => ?_)
          refine r_rf2 h10.1 ?_
          refine r_callV (pc := 81) (q0 := (62 + 2 * (c1 0 0).toNat)) (ci := 2) (As := [vI x4, vI x7]) (rest := [.ref (kB K + 15), .ref (kB K + 15)]) (W' := fun q81_11 => (Zw (kE K) lt b c1 ms rd m P)) (rv := fun q81_11 => some (vI q81_11)) X dX1_meetParts_81 rfl (fun a ha => c_X2_partAt N lt b c1 ms rd m P (c1 0 0) h10 x4 x7 K.1.2.1 K.2.2.1.1 (kE K) a ha) (fun a => Zw_d _ _ _ _ _ _ _ _) gd_X1_78 rfl (n := 2) (by decide) rfl (by decide) rfl rfl (zg_gobj h10) (by simp [z_cat, z_catR, z_catI, z_catL]) (fun q81_11 eq81_11 => ?_)
          show Rn K _ 0 0 _ 84 [(0, .ref (kB K + 15)), (1, vI x1), (2, vI x2), (3, vI x3), (4, vI x4), (5, vI x5), (6, vI x6), (7, vI x7), (8, vI s0_69)] [vI q81_11, .ref (kB K + 15), .ref (kB K + 15)] (Zw (kE K) lt b c1 ms rd m P)
          refine r_aload_n (pc := 84) X 0 dX1_meetParts_84 rfl rfl ?_
          refine r_get (pc := 85) (v := vG (kB K) (c1 1 0)) X 15 1 inX1 rfl rfl (by decide) tf_X1_25 rfl dX1_meetParts_85 ?_
          refine r_iload (pc := 88) X 5 dX1_meetParts_88 rfl ?_
          refine r_iload (pc := 90) X 7 dX1_meetParts_90 rfl ?_
          refine r_ckG (fun h12 => ?_)
          refine r_rf2 h12.1 ?_
          refine r_callV (pc := 92) (q0 := (62 + 2 * (c1 1 0).toNat)) (ci := 2) (As := [vI x5, vI x7]) (rest := [vI q81_11, .ref (kB K + 15), .ref (kB K + 15)]) (W' := fun q92_13 => (Zw (kE K) lt b c1 ms rd m P)) (rv := fun q92_13 => some (vI q92_13)) X dX1_meetParts_92 rfl (fun a ha => c_X2_partAt N lt b c1 ms rd m P (c1 1 0) h12 x5 x7 K.1.2.1 K.2.2.1.1 (kE K) a ha) (fun a => Zw_d _ _ _ _ _ _ _ _) gd_X1_78 rfl (n := 2) (by decide) rfl (by decide) rfl rfl (zg_gobj h12) (by simp [z_cat, z_catR, z_catI, z_catL]) (fun q92_13 eq92_13 => ?_)
          show Rn K _ 0 0 _ 95 [(0, .ref (kB K + 15)), (1, vI x1), (2, vI x2), (3, vI x3), (4, vI x4), (5, vI x5), (6, vI x6), (7, vI x7), (8, vI s0_69)] [vI q92_13, vI q81_11, .ref (kB K + 15), .ref (kB K + 15)] (Zw (kE K) lt b c1 ms rd m P)
          refine r_iload (pc := 95) X 8 dX1_meetParts_95 rfl ?_
          refine r_callV (pc := 97) (q0 := 15) (ci := 1) (As := [vI q81_11, vI q92_13, vI s0_69]) (rest := [.ref (kB K + 15)]) (W' := fun q97_14 => (Zw (kE K) lt b c1 ms rd m P)) (rv := fun q97_14 => some (vI q97_14)) X dX1_meetParts_97 rfl (fun a ha => c_X1_numberOf N lt b c1 ms rd m P q81_11 q92_13 s0_69 K.1.2.1 K.2.2.1.1 (kE K) a ha) (fun a => Zw_d _ _ _ _ _ _ _ _) gd_X1_45 rfl (n := 3) (by decide) rfl (by decide) rfl rfl rfl (by simp [z_cat, z_catR, z_catI, z_catL]) (fun q97_14 eq97_14 => ?_)
          show Rn K _ 0 0 _ 100 [(0, .ref (kB K + 15)), (1, vI x1), (2, vI x2), (3, vI x3), (4, vI x4), (5, vI x5), (6, vI x6), (7, vI x7), (8, vI s0_69)] [vI q97_14, .ref (kB K + 15)] (Zw (kE K) lt b c1 ms rd m P)
          refine r_iconst (pc := 100) X 1 dX1_meetParts_100 (by decide) ?_
          refine r_iconst (pc := 101) X 2 dX1_meetParts_101 (by decide) ?_
          refine r_iload_n (pc := 102) X 1 dX1_meetParts_102 rfl rfl ?_
          refine r_imul (pc := 103) X dX1_meetParts_103 ?_
          refine r_iload (pc := 104) X 7 dX1_meetParts_104 rfl ?_
          refine r_iadd (pc := 106) X dX1_meetParts_106 ?_
          refine r_callV (pc := 107) (q0 := 15) (ci := 1) (As := [vI q97_14, vI 1, vI ((2 * x1) + x7)]) (rest := []) (W' := fun q107_15 => (Zw (kE K) lt b q107_15 ms rd m P)) (rv := fun q107_15 => none) X dX1_meetParts_107 rfl (fun a ha => c_X1_meet N lt b c1 ms rd m P q97_14 1 ((2 * x1) + x7) K.1.2.1 K.2.2.1.1 (kE K) a ha) (fun a => Zw_d _ _ _ _ _ _ _ _) gd_X1_49 rfl (n := 3) (by decide) rfl (by decide) rfl rfl rfl (Nat.zero_le _) (fun q107_15 eq107_15 => ?_)
          show Rn K _ 0 0 _ 110 [(0, .ref (kB K + 15)), (1, vI x1), (2, vI x2), (3, vI x3), (4, vI x4), (5, vI x5), (6, vI x6), (7, vI x7), (8, vI s0_69)] [] (Zw (kE K) lt b q107_15 ms rd m P)
          refine r_iinc (pc := 110) (lv' := [(0, .ref (kB K + 15)), (1, vI x1), (2, vI x2), (3, vI x3), (4, vI x4), (5, vI x5), (6, vI x6), (7, vI (x7 + 1)), (8, vI s0_69)]) X 7 [1, 2, 3, 4, 5, 6, 7, 0, 8] dX1_meetParts_110 rfl (by decide) rfl ?_
          refine r_goto (pc := 113) X dX1_meetParts_113 (tgt := 35) (by decide) ?_
          refine r_sub [0, 1, 2, 3, 4, 5, 6, 7] rfl ?_
          exact ih (x7 + 1) q107_15
        refine r_ck1 (fun h16 => ?_)
        refine r_ck1 (fun h17 => ?_)
        refine r_icmp_eq (pc := 61) X h16 h17 dX1_meetParts_61 (tgt := 68) (by decide) (fun h18 => ?_) (fun h18 => ?_)
        · refine r_iconst (pc := 68) X 0 dX1_meetParts_68 (by decide) ?_
          exact hj69 0
        · refine r_iconst (pc := 64) X 1 dX1_meetParts_64 (by decide) ?_
          refine r_goto (pc := 65) X dX1_meetParts_65 (tgt := 69) (by decide) ?_
          exact hj69 1
      refine r_jn (J := fun j60 => Rn K (Q_X1_meetParts K lt b c ms rd m P) 0 0 j60 60 [(0, .ref (kB K + 15)), (1, vI x1), (2, vI x2), (3, vI x3), (4, vI x4), (5, vI x5), (6, vI x6), (7, vI x7)] [vI q44_9] (Zw (kE K) lt b c1 ms rd m P)) ?_ (fun j60 hj60 => ?_)
      · skip
        refine r_iconst (pc := 60) X 0 dX1_meetParts_60 (by decide) ?_
        exact hj61 0
      refine r_ck1 (fun h19 => ?_)
      refine r_ifeq (pc := 48) X h19 dX1_meetParts_48 (tgt := 60) (by decide) (fun h20 => ?_) (fun h20 => ?_)
      · exact hj60
      · refine r_iload (pc := 51) X 7 dX1_meetParts_51 rfl ?_
        refine r_ifne (pc := 53) X h6 dX1_meetParts_53 (tgt := 60) (by decide) (fun h21 => ?_) (fun h21 => ?_)
        · exact hj60
        · refine r_iconst (pc := 56) X 1 dX1_meetParts_56 (by decide) ?_
          refine r_goto (pc := 57) X dX1_meetParts_57 (tgt := 61) (by decide) ?_
          exact hj61 1
set_option maxRecDepth 100000 in
set_option maxHeartbeats 4000000 in
theorem t_X1_meetParts (N : Nat) (lt b c ms rd m : Bd) (P : PL) (x1 x2 : Int) (K : KT) (X : Kok K cX1_meetParts yX1_meetParts.cls lw_g ({ frames := 3, cells := 0, slots := 0, locals := 63 } : Room) none 9) : Rn K (Q_X1_meetParts K lt b c ms rd m P) 0 0 (f_X1_meetParts N c P x1 x2) 0 [(0, .ref (kB K + 15)), (1, vI x1), (2, vI x2)] [] (Zw (kE K) lt b c ms rd m P) := by
  unfold f_X1_meetParts
  refine r_aload_n (pc := 0) X 0 dX1_meetParts_0 rfl rfl ?_
  refine r_get (pc := 1) (v := .ref (kB K + 16)) X 15 2 inX1 rfl rfl (by decide) tf_X1_9 rfl dX1_meetParts_1 ?_
  refine r_iload_n (pc := 4) X 1 dX1_meetParts_4 rfl rfl ?_
  refine r_ckA (fun h1 => ?_)
  refine r_iald (pc := 5) (f := c 2) X 16 h1 zl_3200 rfl dX1_meetParts_5 ?_
  refine r_istore_n (pc := 6) (lv' := [(0, .ref (kB K + 15)), (1, vI x1), (2, vI x2), (3, vI (c 2 x1))]) X [1, 2, 3, 0] dX1_meetParts_6 rfl (by decide) rfl ?_
  refine r_aload_n (pc := 7) X 0 dX1_meetParts_7 rfl rfl ?_
  refine r_iload_n (pc := 8) X 3 dX1_meetParts_8 rfl rfl ?_
  refine r_callV (pc := 9) (q0 := 15) (ci := 1) (As := [vI (c 2 x1)]) (rest := []) (W' := fun q9_2 => (Zw (kE K) lt b c ms rd m P)) (rv := fun q9_2 => some (vI q9_2)) X dX1_meetParts_9 rfl (fun a ha => c_X1_leftOf N lt b c ms rd m P (c 2 x1) K.1.2.1 K.2.2.1.1 (kE K) a ha) (fun a => Zw_d _ _ _ _ _ _ _ _) gd_X1_57 rfl (n := 1) (by decide) rfl (by decide) rfl rfl rfl (Nat.zero_le _) (fun q9_2 eq9_2 => ?_)
  show Rn K _ 0 0 _ 12 [(0, .ref (kB K + 15)), (1, vI x1), (2, vI x2), (3, vI (c 2 x1))] [vI q9_2] (Zw (kE K) lt b c ms rd m P)
  refine r_istore (pc := 12) (lv' := [(0, .ref (kB K + 15)), (1, vI x1), (2, vI x2), (3, vI (c 2 x1)), (4, vI q9_2)]) X [1, 2, 3, 4, 0] dX1_meetParts_12 (by decide) rfl ?_
  refine r_aload_n (pc := 14) X 0 dX1_meetParts_14 rfl rfl ?_
  refine r_iload_n (pc := 15) X 3 dX1_meetParts_15 rfl rfl ?_
  refine r_callV (pc := 16) (q0 := 15) (ci := 1) (As := [vI (c 2 x1)]) (rest := []) (W' := fun q16_3 => (Zw (kE K) lt b c ms rd m P)) (rv := fun q16_3 => some (vI q16_3)) X dX1_meetParts_16 rfl (fun a ha => c_X1_rightOf N lt b c ms rd m P (c 2 x1) K.1.2.1 K.2.2.1.1 (kE K) a ha) (fun a => Zw_d _ _ _ _ _ _ _ _) gd_X1_64 rfl (n := 1) (by decide) rfl (by decide) rfl rfl rfl (Nat.zero_le _) (fun q16_3 eq16_3 => ?_)
  show Rn K _ 0 0 _ 19 [(0, .ref (kB K + 15)), (1, vI x1), (2, vI x2), (3, vI (c 2 x1)), (4, vI q9_2)] [vI q16_3] (Zw (kE K) lt b c ms rd m P)
  refine r_istore (pc := 19) (lv' := [(0, .ref (kB K + 15)), (1, vI x1), (2, vI x2), (3, vI (c 2 x1)), (4, vI q9_2), (5, vI q16_3)]) X [1, 2, 3, 4, 5, 0] dX1_meetParts_19 (by decide) rfl ?_
  refine r_aload_n (pc := 21) X 0 dX1_meetParts_21 rfl rfl ?_
  refine r_get (pc := 22) (v := vG (kB K) (c 0 0)) X 15 0 inX1 rfl rfl (by decide) tf_X1_21 rfl dX1_meetParts_22 ?_
  refine r_iload (pc := 25) X 4 dX1_meetParts_25 rfl ?_
  refine r_ckG (fun h4 => ?_)
  refine r_rf1 h4.1 ?_
  refine r_callV (pc := 27) (q0 := (62 + 2 * (c 0 0).toNat)) (ci := 2) (As := [vI q9_2]) (rest := []) (W' := fun q27_5 => (Zw (kE K) lt b c ms rd m P)) (rv := fun q27_5 => some (vI q27_5)) X dX1_meetParts_27 rfl (fun a ha => c_X2_partCount N lt b c ms rd m P (c 0 0) h4 q9_2 K.1.2.1 K.2.2.1.1 (kE K) a ha) (fun a => Zw_d _ _ _ _ _ _ _ _) gd_X1_75 rfl (n := 1) (by decide) rfl (by decide) rfl rfl (zg_gobj h4) (Nat.zero_le _) (fun q27_5 eq27_5 => ?_)
  show Rn K _ 0 0 _ 30 [(0, .ref (kB K + 15)), (1, vI x1), (2, vI x2), (3, vI (c 2 x1)), (4, vI q9_2), (5, vI q16_3)] [vI q27_5] (Zw (kE K) lt b c ms rd m P)
  refine r_istore (pc := 30) (lv' := [(0, .ref (kB K + 15)), (1, vI x1), (2, vI x2), (3, vI (c 2 x1)), (4, vI q9_2), (5, vI q16_3), (6, vI q27_5)]) X [1, 2, 3, 4, 5, 6, 0] dX1_meetParts_30 (by decide) rfl ?_
  refine r_iconst (pc := 32) X 0 dX1_meetParts_32 (by decide) ?_
  refine r_istore (pc := 33) (lv' := [(0, .ref (kB K + 15)), (1, vI x1), (2, vI x2), (3, vI (c 2 x1)), (4, vI q9_2), (5, vI q16_3), (6, vI q27_5), (7, vI 0)]) X [1, 2, 3, 4, 5, 6, 7, 0] dX1_meetParts_33 (by decide) rfl ?_
  refine t_X1_meetParts_L35 N lt b c ms rd m P  x1 x2 (c 2 x1) q9_2 q16_3 q27_5 K X _ ?_ N 0 c
  intro c_35
  exact r_vret (pc := 116) X rfl rfl (by decide) dX1_meetParts_116
theorem c_X1_meetParts (N : Nat) (lt b c ms rd m : Bd) (P : PL) (x1 x2 : Int) (l : Launch) (D : va_G) (E : ET) (a : Bd) (ha : f_X1_meetParts N c P x1 x2 = some a) : Ct l yX1_meetParts (Cond.code yX1_meetParts cX1_meetParts 9 none :: lw_g) ({ frames := 3, cells := 0, slots := 0, locals := 63 } : Room) D E [.ref (E.2.2.2 + 15), vI x1, vI x2] (Zw E lt b c ms rd m P) (Zw E lt b a ms rd m P) (none) :=
  ct_of (av := fun E => [.ref (E.2.2.2 + 15), vI x1, vI x2]) (W0 := fun E => Zw E lt b c ms rd m P) (W1 := fun E (a : Bd) => Zw E lt b a ms rd m P) (rw := fun E a => none) (by decide) rfl (fun E => Zw_d E lt b c ms rd m P) (fun E => by simp [lg_sl, z_cat, z_catR, z_catI, z_catL]) (fun K X => r_lv (by simp [lv_args, z_cat, z_catR, z_catI, z_catL]) (t_X1_meetParts N lt b c ms rd m P x1 x2 K X)) l D E a ha
abbrev Q_X1_firstFailing (K : KT) (lt b c ms rd m : Bd) (P : PL) : (Int × Bd) → State → Prop := Qm K ({ frames := 4, cells := 0, slots := 0, locals := 91 } : Room) (fun a : Int × Bd => Zw (kE K) lt b a.2 ms rd m P) (fun a => some (vI a.1))
set_option maxRecDepth 100000 in
set_option maxHeartbeats 4000000 in
theorem t_X1_firstFailing_L22 (N : Nat) (lt b c ms rd m : Bd) (P : PL) (x3 : Int) (K : KT) (X : Kok K cX1_firstFailing yX1_firstFailing.cls lw_g ({ frames := 4, cells := 0, slots := 0, locals := 91 } : Room) (some .int) 10) (k : Bd → Option (Int × Bd)) (hk : ∀ (c1 : Bd), Rn K (Q_X1_firstFailing K lt b c ms rd m P) 0 0 (k c1) 165 [] [] (Zw (kE K) lt b c1 ms rd m P)) : ∀ (n : Nat) (x4 : Int) (c1 : Bd), Rn K (Q_X1_firstFailing K lt b c ms rd m P) 0 0 (f_X1_firstFailing_L22 N P x3 k n x4 c1) 22 [(0, .ref (kB K + 15)), (3, vI x3), (4, vI x4)] [] (Zw (kE K) lt b c1 ms rd m P) := by
  intro n
  induction n with
  | zero =>
    intro x4 c1
    rw [f_X1_firstFailing_L22]
    exact r_none
  | succ n ih =>
    intro x4 c1
    rw [f_X1_firstFailing_L22]
    refine r_iload (pc := 22) X 2 dX1_firstFailing_22 rfl ?_
    refine r_aload_n (pc := 24) X 0 dX1_firstFailing_24 rfl rfl ?_
    refine r_get (pc := 25) (v := vI (c1 3 0)) X 15 3 inX1 rfl rfl (by decide) tf_X1_28 rfl dX1_firstFailing_25 ?_
    refine r_ck1 (fun h4 => ?_)
    refine r_ck1 (fun h5 => ?_)
    refine r_icmp_ge (pc := 28) X h4 h5 dX1_firstFailing_28 (tgt := 165) (by decide) (fun h6 => ?_) (fun h6 => ?_)
    · refine r_sub [] rfl ?_
      exact hk c1
    · refine r_iload (pc := 31) X 2 dX1_firstFailing_31 rfl ?_
      refine r_sipush (pc := 33) X 3200 dX1_firstFailing_33 (by decide) ?_
      refine r_icmp_ge (pc := 36) X h4 (by decide) dX1_firstFailing_36 (tgt := 165) (by decide) (fun h7 => ?_) (fun h7 => ?_)
      · refine r_sub [] rfl ?_
        exact hk c1
      · refine r_aload_n (pc := 39) X 0 dX1_firstFailing_39 rfl rfl ?_
        refine r_get (pc := 40) (v := .ref (kB K + 16)) X 15 2 inX1 rfl rfl (by decide) tf_X1_9 rfl dX1_firstFailing_40 ?_
        refine r_iload (pc := 43) X 2 dX1_firstFailing_43 rfl ?_
        refine r_ckA (fun h8 => ?_)
        refine r_iald (pc := 45) (f := c1 2) X 16 h8 zl_3200 rfl dX1_firstFailing_45 ?_
        refine r_istore (pc := 46) (lv' := [(0, .ref (kB K + 15)), (3, vI x3), (4, vI x4), (5, vI (c1 2 x4))]) X [1, 2, 3, 0] dX1_firstFailing_46 (by decide) rfl ?_
        refine r_aload_n (pc := 48) X 0 dX1_firstFailing_48 rfl rfl ?_
        refine r_iload (pc := 49) X 3 dX1_firstFailing_49 rfl ?_
        refine r_callV (pc := 51) (q0 := 15) (ci := 1) (As := [vI (c1 2 x4)]) (rest := []) (W' := fun q51_9 => (Zw (kE K) lt b c1 ms rd m P)) (rv := fun q51_9 => some (vI q51_9)) X dX1_firstFailing_51 rfl (fun a ha => c_X1_isAbout N lt b c1 ms rd m P (c1 2 x4) K.1.2.1 K.2.2.1.1 (kE K) a ha) (fun a => Zw_d _ _ _ _ _ _ _ _) gd_X1_53 rfl (n := 1) (by decide) rfl (by decide) rfl rfl rfl (Nat.zero_le _) (fun q51_9 eq51_9 => ?_)
        show Rn K _ 0 0 _ 54 [(0, .ref (kB K + 15)), (3, vI x3), (4, vI x4), (5, vI (c1 2 x4))] [vI q51_9] (Zw (kE K) lt b c1 ms rd m P)
        refine r_istore (pc := 54) (lv' := [(0, .ref (kB K + 15)), (3, vI x3), (4, vI x4), (5, vI (c1 2 x4)), (6, vI q51_9)]) X [1, 2, 3, 4, 0] dX1_firstFailing_54 (by decide) rfl ?_
        refine r_aload_n (pc := 56) X 0 dX1_firstFailing_56 rfl rfl ?_
        refine r_get (pc := 57) (v := vG (kB K) (c1 0 0)) X 15 0 inX1 rfl rfl (by decide) tf_X1_21 rfl dX1_firstFailing_57 ?_
        refine r_aload_n (pc := 60) X 0 dX1_firstFailing_60 rfl rfl ?_
        refine r_iload (pc := 61) X 3 dX1_firstFailing_61 rfl ?_
        refine r_callV (pc := 63) (q0 := 15) (ci := 1) (As := [vI (c1 2 x4)]) (rest := [vG (kB K) (c1 0 0)]) (W' := fun q63_10 => (Zw (kE K) lt b c1 ms rd m P)) (rv := fun q63_10 => some (vI q63_10)) X dX1_firstFailing_63 rfl (fun a ha => c_X1_leftOf N lt b c1 ms rd m P (c1 2 x4) K.1.2.1 K.2.2.1.1 (kE K) a ha) (fun a => Zw_d _ _ _ _ _ _ _ _) gd_X1_57 rfl (n := 1) (by decide) rfl (by decide) rfl rfl rfl (by simp [z_cat, z_catR, z_catI, z_catL]) (fun q63_10 eq63_10 => ?_)
        show Rn K _ 0 0 _ 66 [(0, .ref (kB K + 15)), (3, vI x3), (4, vI x4), (5, vI (c1 2 x4)), (6, vI q51_9)] [vI q63_10, vG (kB K) (c1 0 0)] (Zw (kE K) lt b c1 ms rd m P)
        refine r_ckG (fun h11 => ?_)
        refine r_rf1 h11.1 ?_
        refine r_callV (pc := 66) (q0 := (62 + 2 * (c1 0 0).toNat)) (ci := 2) (As := [vI q63_10]) (rest := []) (W' := fun q66_12 => (Zw (kE K) lt b c1 ms rd m P)) (rv := fun q66_12 => some (vI q66_12)) X dX1_firstFailing_66 rfl (fun a ha => c_X2_headAt N lt b c1 ms rd m P (c1 0 0) h11 q63_10 K.1.2.1 K.2.2.1.1 (kE K) a ha) (fun a => Zw_d _ _ _ _ _ _ _ _) gd_X1_61 rfl (n := 1) (by decide) rfl (by decide) rfl rfl (zg_gobj h11) (Nat.zero_le _) (fun q66_12 eq66_12 => ?_)
        show Rn K _ 0 0 _ 69 [(0, .ref (kB K + 15)), (3, vI x3), (4, vI x4), (5, vI (c1 2 x4)), (6, vI q51_9)] [vI q66_12] (Zw (kE K) lt b c1 ms rd m P)
        refine r_istore (pc := 69) (lv' := [(0, .ref (kB K + 15)), (3, vI x3), (4, vI x4), (5, vI (c1 2 x4)), (6, vI q51_9), (7, vI q66_12)]) X [1, 2, 3, 4, 5, 0] dX1_firstFailing_69 (by decide) rfl ?_
        refine r_aload_n (pc := 71) X 0 dX1_firstFailing_71 rfl rfl ?_
        refine r_get (pc := 72) (v := vG (kB K) (c1 1 0)) X 15 1 inX1 rfl rfl (by decide) tf_X1_25 rfl dX1_firstFailing_72 ?_
        refine r_aload_n (pc := 75) X 0 dX1_firstFailing_75 rfl rfl ?_
        refine r_iload (pc := 76) X 3 dX1_firstFailing_76 rfl ?_
        refine r_callV (pc := 78) (q0 := 15) (ci := 1) (As := [vI (c1 2 x4)]) (rest := [vG (kB K) (c1 1 0)]) (W' := fun q78_13 => (Zw (kE K) lt b c1 ms rd m P)) (rv := fun q78_13 => some (vI q78_13)) X dX1_firstFailing_78 rfl (fun a ha => c_X1_rightOf N lt b c1 ms rd m P (c1 2 x4) K.1.2.1 K.2.2.1.1 (kE K) a ha) (fun a => Zw_d _ _ _ _ _ _ _ _) gd_X1_64 rfl (n := 1) (by decide) rfl (by decide) rfl rfl rfl (by simp [z_cat, z_catR, z_catI, z_catL]) (fun q78_13 eq78_13 => ?_)
        show Rn K _ 0 0 _ 81 [(0, .ref (kB K + 15)), (3, vI x3), (4, vI x4), (5, vI (c1 2 x4)), (6, vI q51_9), (7, vI q66_12)] [vI q78_13, vG (kB K) (c1 1 0)] (Zw (kE K) lt b c1 ms rd m P)
        refine r_ckG (fun h14 => ?_)
        refine r_rf1 h14.1 ?_
        refine r_callV (pc := 81) (q0 := (62 + 2 * (c1 1 0).toNat)) (ci := 2) (As := [vI q78_13]) (rest := []) (W' := fun q81_15 => (Zw (kE K) lt b c1 ms rd m P)) (rv := fun q81_15 => some (vI q81_15)) X dX1_firstFailing_81 rfl (fun a ha => c_X2_headAt N lt b c1 ms rd m P (c1 1 0) h14 q78_13 K.1.2.1 K.2.2.1.1 (kE K) a ha) (fun a => Zw_d _ _ _ _ _ _ _ _) gd_X1_61 rfl (n := 1) (by decide) rfl (by decide) rfl rfl (zg_gobj h14) (Nat.zero_le _) (fun q81_15 eq81_15 => ?_)
        show Rn K _ 0 0 _ 84 [(0, .ref (kB K + 15)), (3, vI x3), (4, vI x4), (5, vI (c1 2 x4)), (6, vI q51_9), (7, vI q66_12)] [vI q81_15] (Zw (kE K) lt b c1 ms rd m P)
        refine r_istore (pc := 84) (lv' := [(0, .ref (kB K + 15)), (3, vI x3), (4, vI x4), (5, vI (c1 2 x4)), (6, vI q51_9), (7, vI q66_12), (8, vI q81_15)]) X [1, 2, 3, 4, 5, 6, 0] dX1_firstFailing_84 (by decide) rfl ?_
        refine r_iload (pc := 86) X 4 dX1_firstFailing_86 rfl ?_
        refine r_jn (J := fun j98 => ∀ (s0_98 : Int), Rn K (Q_X1_firstFailing K lt b c ms rd m P) 0 0 (j98 s0_98) 98 [(0, .ref (kB K + 15)), (3, vI x3), (4, vI x4), (6, vI q51_9), (7, vI q66_12), (8, vI q81_15)] [vI s0_98] (Zw (kE K) lt b c1 ms rd m P)) ?_ (fun j98 hj98 => ?_)
        · intro s0_98
          refine r_iload (pc := 98) X 3 dX1_firstFailing_98 rfl ?_
          refine r_jn (J := fun j110 => ∀ (s1_110 : Int), Rn K (Q_X1_firstFailing K lt b c ms rd m P) 0 0 (j110 s1_110) 110 [(0, .ref (kB K + 15)), (3, vI x3), (4, vI x4), (7, vI q66_12), (8, vI q81_15)] [vI s1_110, vI s0_98] (Zw (kE K) lt b c1 ms rd m P)) ?_ (fun j110 hj110 => ?_)
          · intro s1_110
            refine r_iload_n (pc := 110) X 1 dX1_firstFailing_110 rfl rfl ?_
            refine r_callS (pc := 111) (As := [vI s0_98, vI s1_110, vI x3]) (rest := []) (W' := fun q111_16 => (Zw (kE K) lt b c1 ms rd m P)) (rv := fun q111_16 => some (vI q111_16)) X dX1_firstFailing_111 rfl (fun a ha => c_X1_headsGo N lt b c1 ms rd m P s0_98 s1_110 x3 K.1.2.1 K.2.2.1.1 (kE K) a ha) (fun a => Zw_d _ _ _ _ _ _ _ _) gd_X1_67 rfl (n := 3) (by decide) rfl (by decide) (Nat.zero_le _) (fun q111_16 eq111_16 => ?_)
            show Rn K _ 0 0 _ 114 [(0, .ref (kB K + 15)), (3, vI x3), (4, vI x4), (7, vI q66_12), (8, vI q81_15)] [vI q111_16] (Zw (kE K) lt b c1 ms rd m P)
            refine r_ck1 (fun h17 => ?_)
            refine r_ifne (pc := 114) X h17 dX1_firstFailing_114 (tgt := 120) (by decide) (fun h18 => ?_) (fun h18 => ?_)
            · refine r_iload (pc := 120) X 3 dX1_firstFailing_120 rfl ?_
              refine r_iload (pc := 122) X 4 dX1_firstFailing_122 rfl ?_
              refine r_ck1 (fun h19 => ?_)
              refine r_ck1 (fun h20 => ?_)
              refine r_icmp_ne (pc := 124) X h19 h20 dX1_firstFailing_124 (tgt := 159) (by decide) (fun h21 => ?_) (fun h21 => ?_)
              · refine r_iinc (pc := 159) (lv' := [(0, .ref (kB K + 15)), (3, vI x3), (4, vI (x4 + 1)), (7, vI q66_12), (8, vI q81_15)]) X 2 [1, 2, 0, 3, 4] dX1_firstFailing_159 rfl (by decide) rfl ?_
                refine r_goto (pc := 162) X dX1_firstFailing_162 (tgt := 22) (by decide) ?_
                refine r_sub [0, 1, 2] rfl ?_
                exact ih (x4 + 1) c1
              · refine r_iload (pc := 127) X 3 dX1_firstFailing_127 rfl ?_
                refine r_bipush (pc := 129) X 6 dX1_firstFailing_129 (by decide) ?_
                refine r_jn (J := fun j149 => ∀ (s0_149 : Int), Rn K (Q_X1_firstFailing K lt b c ms rd m P) 0 0 (j149 s0_149) 149 [(0, .ref (kB K + 15)), (3, vI x3), (4, vI x4)] [vI s0_149] (Zw (kE K) lt b c1 ms rd m P)) ?_ (fun j149 hj149 => ?_)
                · intro s0_149
                  refine r_istore (pc := 149) (lv' := [(0, .ref (kB K + 15)), (3, vI x3), (4, vI x4), (9, vI s0_149)]) X [1, 2, 3, 0] dX1_firstFailing_149 (by decide) rfl ?_
                  refine r_aload_n (pc := 151) X 0 dX1_firstFailing_151 rfl rfl ?_
                  refine r_iload (pc := 152) X 2 dX1_firstFailing_152 rfl ?_
                  refine r_iload (pc := 154) X 3 dX1_firstFailing_154 rfl ?_
                  refine r_callV (pc := 156) (q0 := 15) (ci := 1) (As := [vI x4, vI s0_149]) (rest := []) (W' := fun q156_22 => (Zw (kE K) lt b q156_22 ms rd m P)) (rv := fun q156_22 => none) X dX1_firstFailing_156 rfl (fun a ha => c_X1_meetParts N lt b c1 ms rd m P x4 s0_149 K.1.2.1 K.2.2.1.1 (kE K) a ha) (fun a => Zw_d _ _ _ _ _ _ _ _) gd_X1_71 rfl (n := 2) (by decide) rfl (by decide) rfl rfl rfl (Nat.zero_le _) (fun q156_22 eq156_22 => ?_)
                  show Rn K _ 0 0 _ 159 [(0, .ref (kB K + 15)), (3, vI x3), (4, vI x4), (9, vI s0_149)] [] (Zw (kE K) lt b q156_22 ms rd m P)
                  refine r_iinc (pc := 159) (lv' := [(0, .ref (kB K + 15)), (3, vI x3), (4, vI (x4 + 1)), (9, vI s0_149)]) X 2 [1, 2, 0, 3] dX1_firstFailing_159 rfl (by decide) rfl ?_
                  refine r_goto (pc := 162) X dX1_firstFailing_162 (tgt := 22) (by decide) ?_
                  refine r_sub [0, 1, 2] rfl ?_
                  exact ih (x4 + 1) q156_22
                refine r_jn (J := fun j148 => Rn K (Q_X1_firstFailing K lt b c ms rd m P) 0 0 j148 148 [(0, .ref (kB K + 15)), (3, vI x3), (4, vI x4)] [] (Zw (kE K) lt b c1 ms rd m P)) ?_ (fun j148 hj148 => ?_)
                · skip
                  refine r_iconst (pc := 148) X 0 dX1_firstFailing_148 (by decide) ?_
                  exact hj149 0
                refine r_icmp_ne (pc := 131) X h19 (by decide) dX1_firstFailing_131 (tgt := 148) (by decide) (fun h23 => ?_) (fun h23 => ?_)
                · refine r_sub [0, 1, 2] rfl ?_
                  exact hj148
                · refine r_iload_n (pc := 134) X 1 dX1_firstFailing_134 rfl rfl ?_
                  refine r_iconst (pc := 135) X 2 dX1_firstFailing_135 (by decide) ?_
                  refine r_ck1 (fun h24 => ?_)
                  refine r_icmp_eq (pc := 136) X h24 (by decide) dX1_firstFailing_136 (tgt := 148) (by decide) (fun h25 => ?_) (fun h25 => ?_)
                  · refine r_sub [0, 1, 2] rfl ?_
                    exact hj148
                  · refine r_iload_n (pc := 139) X 1 dX1_firstFailing_139 rfl rfl ?_
                    refine r_iconst (pc := 140) X 4 dX1_firstFailing_140 (by decide) ?_
                    refine r_icmp_eq (pc := 141) X h24 (by decide) dX1_firstFailing_141 (tgt := 148) (by decide) (fun h26 => ?_) (fun h26 => ?_)
                    · refine r_sub [0, 1, 2] rfl ?_
                      exact hj148
                    · refine r_iconst (pc := 144) X 1 dX1_firstFailing_144 (by decide) ?_
                      refine r_goto (pc := 145) X dX1_firstFailing_145 (tgt := 149) (by decide) ?_
                      refine r_sub [0, 1, 2] rfl ?_
                      exact hj149 1
            · refine r_iload (pc := 117) X 2 dX1_firstFailing_117 rfl ?_
              exact r_iret (pc := 119) X rfl rfl (by decide) dX1_firstFailing_119
          refine r_ck1 (fun h27 => ?_)
          refine r_ifeq (pc := 100) X h27 dX1_firstFailing_100 (tgt := 108) (by decide) (fun h28 => ?_) (fun h28 => ?_)
          · refine r_iload (pc := 108) X 5 dX1_firstFailing_108 rfl ?_
            refine r_sub [0, 1, 2, 4, 5] rfl ?_
            exact hj110 q81_15
          · refine r_iload (pc := 103) X 4 dX1_firstFailing_103 rfl ?_
            refine r_goto (pc := 105) X dX1_firstFailing_105 (tgt := 110) (by decide) ?_
            refine r_sub [0, 1, 2, 4, 5] rfl ?_
            exact hj110 q66_12
        refine r_ck1 (fun h29 => ?_)
        refine r_ifeq (pc := 88) X h29 dX1_firstFailing_88 (tgt := 96) (by decide) (fun h30 => ?_) (fun h30 => ?_)
        · refine r_iload (pc := 96) X 5 dX1_firstFailing_96 rfl ?_
          refine r_sub [0, 1, 2, 4, 5, 6] rfl ?_
          exact hj98 q66_12
        · refine r_iload (pc := 91) X 6 dX1_firstFailing_91 rfl ?_
          refine r_goto (pc := 93) X dX1_firstFailing_93 (tgt := 98) (by decide) ?_
          refine r_sub [0, 1, 2, 4, 5, 6] rfl ?_
          exact hj98 q81_15
set_option maxRecDepth 100000 in
set_option maxHeartbeats 4000000 in
theorem t_X1_firstFailing (N : Nat) (lt b c ms rd m : Bd) (P : PL) (x1 x2 x3 : Int) (K : KT) (X : Kok K cX1_firstFailing yX1_firstFailing.cls lw_g ({ frames := 4, cells := 0, slots := 0, locals := 91 } : Room) (some .int) 10) : Rn K (Q_X1_firstFailing K lt b c ms rd m P) 0 0 (f_X1_firstFailing N c P x1 x2 x3) 0 [(0, .ref (kB K + 15)), (1, vG (kB K) x1), (2, vG (kB K) x2), (3, vI x3)] [] (Zw (kE K) lt b c ms rd m P) := by
  unfold f_X1_firstFailing
  refine r_aload_n (pc := 0) X 0 dX1_firstFailing_0 rfl rfl ?_
  refine r_gload_n (pc := 1) X 1 dX1_firstFailing_1 rfl rfl ?_
  refine r_gload_n (pc := 2) X 2 dX1_firstFailing_2 rfl rfl ?_
  refine r_callV (pc := 3) (q0 := 15) (ci := 1) (As := [vG (kB K) x1, vG (kB K) x2]) (rest := []) (W' := fun q3_1 => (Zw (kE K) lt b q3_1 ms rd m P)) (rv := fun q3_1 => none) X dX1_firstFailing_3 rfl (fun a ha => c_X1_start N lt b c ms rd m P x1 x2 K.1.2.1 K.2.2.1.1 (kE K) a ha) (fun a => Zw_d _ _ _ _ _ _ _ _) gd_X1_41 rfl (n := 2) (by decide) rfl (by decide) rfl rfl rfl (Nat.zero_le _) (fun q3_1 eq3_1 => ?_)
  show Rn K _ 0 0 _ 6 [(0, .ref (kB K + 15)), (1, vG (kB K) x1), (2, vG (kB K) x2), (3, vI x3)] [] (Zw (kE K) lt b q3_1 ms rd m P)
  refine r_aload_n (pc := 6) X 0 dX1_firstFailing_6 rfl rfl ?_
  refine r_aload_n (pc := 7) X 0 dX1_firstFailing_7 rfl rfl ?_
  refine r_iconst (pc := 8) X 0 dX1_firstFailing_8 (by decide) ?_
  refine r_iconst (pc := 9) X 0 dX1_firstFailing_9 (by decide) ?_
  refine r_iconst (pc := 10) X 0 dX1_firstFailing_10 (by decide) ?_
  refine r_callV (pc := 11) (q0 := 15) (ci := 1) (As := [vI 0, vI 0, vI 0]) (rest := [.ref (kB K + 15)]) (W' := fun q11_2 => (Zw (kE K) lt b q3_1 ms rd m P)) (rv := fun q11_2 => some (vI q11_2)) X dX1_firstFailing_11 rfl (fun a ha => c_X1_numberOf N lt b q3_1 ms rd m P 0 0 0 K.1.2.1 K.2.2.1.1 (kE K) a ha) (fun a => Zw_d _ _ _ _ _ _ _ _) gd_X1_45 rfl (n := 3) (by decide) rfl (by decide) rfl rfl rfl (by simp [z_cat, z_catR, z_catI, z_catL]) (fun q11_2 eq11_2 => ?_)
  show Rn K _ 0 0 _ 14 [(0, .ref (kB K + 15)), (1, vG (kB K) x1), (2, vG (kB K) x2), (3, vI x3)] [vI q11_2, .ref (kB K + 15)] (Zw (kE K) lt b q3_1 ms rd m P)
  refine r_iconst (pc := 14) X 1 dX1_firstFailing_14 (by decide) ?_
  refine r_iconst (pc := 15) X (-1) dX1_firstFailing_15 (by decide) ?_
  refine r_callV (pc := 16) (q0 := 15) (ci := 1) (As := [vI q11_2, vI 1, vI (-1)]) (rest := []) (W' := fun q16_3 => (Zw (kE K) lt b q16_3 ms rd m P)) (rv := fun q16_3 => none) X dX1_firstFailing_16 rfl (fun a ha => c_X1_meet N lt b q3_1 ms rd m P q11_2 1 (-1) K.1.2.1 K.2.2.1.1 (kE K) a ha) (fun a => Zw_d _ _ _ _ _ _ _ _) gd_X1_49 rfl (n := 3) (by decide) rfl (by decide) rfl rfl rfl (Nat.zero_le _) (fun q16_3 eq16_3 => ?_)
  show Rn K _ 0 0 _ 19 [(0, .ref (kB K + 15)), (1, vG (kB K) x1), (2, vG (kB K) x2), (3, vI x3)] [] (Zw (kE K) lt b q16_3 ms rd m P)
  refine r_iconst (pc := 19) X 0 dX1_firstFailing_19 (by decide) ?_
  refine r_istore (pc := 20) (lv' := [(0, .ref (kB K + 15)), (1, vG (kB K) x1), (2, vG (kB K) x2), (3, vI x3), (4, vI 0)]) X [1, 2, 3, 4, 0] dX1_firstFailing_20 (by decide) rfl ?_
  refine r_sub [0, 3, 4] rfl ?_
  refine t_X1_firstFailing_L22 N lt b c ms rd m P  x3 K X _ ?_ N 0 q16_3
  intro c_22
  refine r_iconst (pc := 165) X (-1) dX1_firstFailing_165 (by decide) ?_
  exact r_iret (pc := 166) X rfl rfl (by decide) dX1_firstFailing_166
theorem c_X1_firstFailing (N : Nat) (lt b c ms rd m : Bd) (P : PL) (x1 x2 x3 : Int) (l : Launch) (D : va_G) (E : ET) (a : Int × Bd) (ha : f_X1_firstFailing N c P x1 x2 x3 = some a) : Ct l yX1_firstFailing (Cond.code yX1_firstFailing cX1_firstFailing 10 (some .int) :: lw_g) ({ frames := 4, cells := 0, slots := 0, locals := 91 } : Room) D E [.ref (E.2.2.2 + 15), vG (E.2.2.2) x1, vG (E.2.2.2) x2, vI x3] (Zw E lt b c ms rd m P) (Zw E lt b a.2 ms rd m P) (some (vI a.1)) :=
  ct_of (av := fun E => [.ref (E.2.2.2 + 15), vG (E.2.2.2) x1, vG (E.2.2.2) x2, vI x3]) (W0 := fun E => Zw E lt b c ms rd m P) (W1 := fun E (a : Int × Bd) => Zw E lt b a.2 ms rd m P) (rw := fun E a => some (vI a.1)) (by decide) rfl (fun E => Zw_d E lt b c ms rd m P) (fun E => by simp [lg_sl, z_cat, z_catR, z_catI, z_catL]) (fun K X => r_lv (by simp [lv_args, z_cat, z_catR, z_catI, z_catL]) (t_X1_firstFailing N lt b c ms rd m P x1 x2 x3 K X)) l D E a ha
abbrev Q_X1_stepCount (K : KT) (lt b c ms rd m : Bd) (P : PL) : (Int) → State → Prop := Qm K ({ frames := 0, cells := 0, slots := 0, locals := 0 } : Room) (fun a : Int => Zw (kE K) lt b c ms rd m P) (fun a => some (vI a))
set_option maxRecDepth 100000 in
set_option maxHeartbeats 4000000 in
theorem t_X1_stepCount_L4 (N : Nat) (lt b c ms rd m : Bd) (P : PL) (K : KT) (X : Kok K cX1_stepCount yX1_stepCount.cls lw_g ({ frames := 0, cells := 0, slots := 0, locals := 0 } : Room) (some .int) 4) (k : Int → Option (Int)) (hk : ∀ (x2 : Int), Rn K (Q_X1_stepCount K lt b c ms rd m P) 0 0 (k x2) 48 [(2, vI x2)] [] (Zw (kE K) lt b c ms rd m P)) : ∀ (n : Nat) (x2 : Int) (x3 : Int), Rn K (Q_X1_stepCount K lt b c ms rd m P) 0 0 (f_X1_stepCount_L4 c k n x2 x3) 4 [(0, .ref (kB K + 15)), (2, vI x2), (3, vI x3)] [] (Zw (kE K) lt b c ms rd m P) := by
  intro n
  induction n with
  | zero =>
    intro x2 x3
    rw [f_X1_stepCount_L4]
    exact r_none
  | succ n ih =>
    intro x2 x3
    rw [f_X1_stepCount_L4]
    refine r_iload_n (pc := 4) X 2 dX1_stepCount_4 rfl rfl ?_
    refine r_ck1 (fun h1 => ?_)
    refine r_iflt (pc := 5) X h1 dX1_stepCount_5 (tgt := 48) (by decide) (fun h2 => ?_) (fun h2 => ?_)
    · refine r_sub [1] rfl ?_
      exact hk x2
    · refine r_iload_n (pc := 8) X 2 dX1_stepCount_8 rfl rfl ?_
      refine r_aload_n (pc := 9) X 0 dX1_stepCount_9 rfl rfl ?_
      refine r_get (pc := 10) (v := vI (c 3 0)) X 15 3 inX1 rfl rfl (by decide) tf_X1_28 rfl dX1_stepCount_10 ?_
      refine r_ck1 (fun h3 => ?_)
      refine r_icmp_ge (pc := 13) X h1 h3 dX1_stepCount_13 (tgt := 48) (by decide) (fun h4 => ?_) (fun h4 => ?_)
      · refine r_sub [1] rfl ?_
        exact hk x2
      · refine r_aload_n (pc := 16) X 0 dX1_stepCount_16 rfl rfl ?_
        refine r_get (pc := 17) (v := .ref (kB K + 17)) X 15 4 inX1 rfl rfl (by decide) tf_X1_15 rfl dX1_stepCount_17 ?_
        refine r_iload_n (pc := 20) X 2 dX1_stepCount_20 rfl rfl ?_
        refine r_ckA (fun h5 => ?_)
        refine r_iald (pc := 21) (f := c 4) X 17 h5 zl_3200 rfl dX1_stepCount_21 ?_
        refine r_iconst (pc := 22) X (-1) dX1_stepCount_22 (by decide) ?_
        refine r_ck1 (fun h6 => ?_)
        refine r_icmp_eq (pc := 23) X h6 (by decide) dX1_stepCount_23 (tgt := 48) (by decide) (fun h7 => ?_) (fun h7 => ?_)
        · refine r_sub [1] rfl ?_
          exact hk x2
        · refine r_iload_n (pc := 26) X 1 dX1_stepCount_26 rfl rfl ?_
          refine r_sipush (pc := 27) X 3200 dX1_stepCount_27 (by decide) ?_
          refine r_ck1 (fun h8 => ?_)
          refine r_icmp_ge (pc := 30) X h8 (by decide) dX1_stepCount_30 (tgt := 48) (by decide) (fun h9 => ?_) (fun h9 => ?_)
          · refine r_sub [1] rfl ?_
            exact hk x2
          · refine r_aload_n (pc := 33) X 0 dX1_stepCount_33 rfl rfl ?_
            refine r_get (pc := 34) (v := .ref (kB K + 17)) X 15 4 inX1 rfl rfl (by decide) tf_X1_15 rfl dX1_stepCount_34 ?_
            refine r_iload_n (pc := 37) X 2 dX1_stepCount_37 rfl rfl ?_
            refine r_iald (pc := 38) (f := c 4) X 17 h5 zl_3200 rfl dX1_stepCount_38 ?_
            refine r_iconst (pc := 39) X 2 dX1_stepCount_39 (by decide) ?_
            refine r_idiv (pc := 40) X h6 (by decide) (by decide) dX1_stepCount_40 ?_
            refine r_istore_n (pc := 41) (lv' := [(0, .ref (kB K + 15)), (2, vI x2), (3, vI (Int.tdiv (c 4 x3) 2))]) X [1, 2, 0] dX1_stepCount_41 rfl (by decide) rfl ?_
            refine r_iinc (pc := 42) (lv' := [(0, .ref (kB K + 15)), (2, vI (x2 + 1)), (3, vI (Int.tdiv (c 4 x3) 2))]) X 1 [1, 0, 2] dX1_stepCount_42 rfl (by decide) rfl ?_
            refine r_goto (pc := 45) X dX1_stepCount_45 (tgt := 4) (by decide) ?_
            exact ih (x2 + 1) (Int.tdiv (c 4 x3) 2)
set_option maxRecDepth 100000 in
set_option maxHeartbeats 4000000 in
theorem t_X1_stepCount (N : Nat) (lt b c ms rd m : Bd) (P : PL) (x1 : Int) (K : KT) (X : Kok K cX1_stepCount yX1_stepCount.cls lw_g ({ frames := 0, cells := 0, slots := 0, locals := 0 } : Room) (some .int) 4) : Rn K (Q_X1_stepCount K lt b c ms rd m P) 0 0 (f_X1_stepCount N c x1) 0 [(0, .ref (kB K + 15)), (1, vI x1)] [] (Zw (kE K) lt b c ms rd m P) := by
  unfold f_X1_stepCount
  refine r_iconst (pc := 0) X 0 dX1_stepCount_0 (by decide) ?_
  refine r_istore_n (pc := 1) (lv' := [(0, .ref (kB K + 15)), (1, vI x1), (2, vI 0)]) X [1, 2, 0] dX1_stepCount_1 rfl (by decide) rfl ?_
  refine r_iload_n (pc := 2) X 1 dX1_stepCount_2 rfl rfl ?_
  refine r_istore_n (pc := 3) (lv' := [(0, .ref (kB K + 15)), (1, vI x1), (2, vI 0), (3, vI x1)]) X [1, 2, 3, 0] dX1_stepCount_3 rfl (by decide) rfl ?_
  refine r_sub [0, 2, 3] rfl ?_
  refine t_X1_stepCount_L4 N lt b c ms rd m P   K X _ ?_ N 0 x1
  intro x2_4
  refine r_iload_n (pc := 48) X 0 dX1_stepCount_48 rfl rfl ?_
  exact r_iret (pc := 49) X rfl rfl (by decide) dX1_stepCount_49
theorem c_X1_stepCount (N : Nat) (lt b c ms rd m : Bd) (P : PL) (x1 : Int) (l : Launch) (D : va_G) (E : ET) (a : Int) (ha : f_X1_stepCount N c x1 = some a) : Ct l yX1_stepCount (Cond.code yX1_stepCount cX1_stepCount 4 (some .int) :: lw_g) ({ frames := 0, cells := 0, slots := 0, locals := 0 } : Room) D E [.ref (E.2.2.2 + 15), vI x1] (Zw E lt b c ms rd m P) (Zw E lt b c ms rd m P) (some (vI a)) :=
  ct_of (av := fun E => [.ref (E.2.2.2 + 15), vI x1]) (W0 := fun E => Zw E lt b c ms rd m P) (W1 := fun E (a : Int) => Zw E lt b c ms rd m P) (rw := fun E a => some (vI a)) (by decide) rfl (fun E => Zw_d E lt b c ms rd m P) (fun E => by simp [lg_sl, z_cat, z_catR, z_catI, z_catL]) (fun K X => r_lv (by simp [lv_args, z_cat, z_catR, z_catI, z_catL]) (t_X1_stepCount N lt b c ms rd m P x1 K X)) l D E a ha
abbrev Q_X1_lastStep (K : KT) (lt b c ms rd m : Bd) (P : PL) : (Int) → State → Prop := Qm K ({ frames := 0, cells := 0, slots := 0, locals := 0 } : Room) (fun a : Int => Zw (kE K) lt b c ms rd m P) (fun a => some (vI a))
set_option maxRecDepth 100000 in
set_option maxHeartbeats 4000000 in
theorem t_X1_lastStep_L5 (N : Nat) (lt b c ms rd m : Bd) (P : PL) (x2 : Int) (K : KT) (X : Kok K cX1_lastStep yX1_lastStep.cls lw_g ({ frames := 0, cells := 0, slots := 0, locals := 0 } : Room) (some .int) 5) (k : Int → Option (Int)) (hk : ∀ (x3 : Int), Rn K (Q_X1_lastStep K lt b c ms rd m P) 0 0 (k x3) 38 [(0, .ref (kB K + 15)), (3, vI x3)] [] (Zw (kE K) lt b c ms rd m P)) : ∀ (n : Nat) (x3 : Int) (x4 : Int), Rn K (Q_X1_lastStep K lt b c ms rd m P) 0 0 (f_X1_lastStep_L5 c x2 k n x3 x4) 5 [(0, .ref (kB K + 15)), (2, vI x2), (3, vI x3), (4, vI x4)] [] (Zw (kE K) lt b c ms rd m P) := by
  intro n
  induction n with
  | zero =>
    intro x3 x4
    rw [f_X1_lastStep_L5]
    exact r_none
  | succ n ih =>
    intro x3 x4
    rw [f_X1_lastStep_L5]
    refine r_iload (pc := 5) X 3 dX1_lastStep_5 rfl ?_
    refine r_iload_n (pc := 7) X 1 dX1_lastStep_7 rfl rfl ?_
    refine r_ck1 (fun h1 => ?_)
    refine r_ck1 (fun h2 => ?_)
    refine r_icmp_ge (pc := 8) X h1 h2 dX1_lastStep_8 (tgt := 38) (by decide) (fun h3 => ?_) (fun h3 => ?_)
    · refine r_sub [0, 2] rfl ?_
      exact hk x3
    · refine r_iload_n (pc := 11) X 2 dX1_lastStep_11 rfl rfl ?_
      refine r_ck1 (fun h4 => ?_)
      refine r_ifle (pc := 12) X h4 dX1_lastStep_12 (tgt := 38) (by decide) (fun h5 => ?_) (fun h5 => ?_)
      · refine r_sub [0, 2] rfl ?_
        exact hk x3
      · refine r_iload_n (pc := 15) X 2 dX1_lastStep_15 rfl rfl ?_
        refine r_aload_n (pc := 16) X 0 dX1_lastStep_16 rfl rfl ?_
        refine r_get (pc := 17) (v := vI (c 3 0)) X 15 3 inX1 rfl rfl (by decide) tf_X1_28 rfl dX1_lastStep_17 ?_
        refine r_ck1 (fun h6 => ?_)
        refine r_icmp_ge (pc := 20) X h4 h6 dX1_lastStep_20 (tgt := 38) (by decide) (fun h7 => ?_) (fun h7 => ?_)
        · refine r_sub [0, 2] rfl ?_
          exact hk x3
        · refine r_aload_n (pc := 23) X 0 dX1_lastStep_23 rfl rfl ?_
          refine r_get (pc := 24) (v := .ref (kB K + 17)) X 15 4 inX1 rfl rfl (by decide) tf_X1_15 rfl dX1_lastStep_24 ?_
          refine r_iload_n (pc := 27) X 2 dX1_lastStep_27 rfl rfl ?_
          refine r_ckA (fun h8 => ?_)
          refine r_iald (pc := 28) (f := c 4) X 17 h8 zl_3200 rfl dX1_lastStep_28 ?_
          refine r_iconst (pc := 29) X 2 dX1_lastStep_29 (by decide) ?_
          refine r_ck1 (fun h9 => ?_)
          refine r_idiv (pc := 30) X h9 (by decide) (by decide) dX1_lastStep_30 ?_
          refine r_istore_n (pc := 31) (lv' := [(0, .ref (kB K + 15)), (2, vI x2), (3, vI (Int.tdiv (c 4 x3) 2)), (4, vI x4)]) X [1, 2, 0, 3] dX1_lastStep_31 rfl (by decide) rfl ?_
          refine r_iinc (pc := 32) (lv' := [(0, .ref (kB K + 15)), (2, vI x2), (3, vI (Int.tdiv (c 4 x3) 2)), (4, vI (x4 + 1))]) X 3 [1, 2, 3, 0] dX1_lastStep_32 rfl (by decide) rfl ?_
          refine r_goto (pc := 35) X dX1_lastStep_35 (tgt := 5) (by decide) ?_
          exact ih (Int.tdiv (c 4 x3) 2) (x4 + 1)
set_option maxRecDepth 100000 in
set_option maxHeartbeats 4000000 in
theorem t_X1_lastStep (N : Nat) (lt b c ms rd m : Bd) (P : PL) (x1 x2 : Int) (K : KT) (X : Kok K cX1_lastStep yX1_lastStep.cls lw_g ({ frames := 0, cells := 0, slots := 0, locals := 0 } : Room) (some .int) 5) : Rn K (Q_X1_lastStep K lt b c ms rd m P) 0 0 (f_X1_lastStep N c x1 x2) 0 [(0, .ref (kB K + 15)), (1, vI x1), (2, vI x2)] [] (Zw (kE K) lt b c ms rd m P) := by
  unfold f_X1_lastStep
  refine r_iload_n (pc := 0) X 1 dX1_lastStep_0 rfl rfl ?_
  refine r_istore_n (pc := 1) (lv' := [(0, .ref (kB K + 15)), (1, vI x1), (2, vI x2), (3, vI x1)]) X [1, 2, 3, 0] dX1_lastStep_1 rfl (by decide) rfl ?_
  refine r_iconst (pc := 2) X 0 dX1_lastStep_2 (by decide) ?_
  refine r_istore (pc := 3) (lv' := [(0, .ref (kB K + 15)), (1, vI x1), (2, vI x2), (3, vI x1), (4, vI 0)]) X [1, 2, 3, 4, 0] dX1_lastStep_3 (by decide) rfl ?_
  refine r_sub [0, 2, 3, 4] rfl ?_
  refine t_X1_lastStep_L5 N lt b c ms rd m P  x2 K X _ ?_ N x1 0
  intro x3_5
  refine r_iload_n (pc := 38) X 1 dX1_lastStep_38 rfl rfl ?_
  refine r_ck1 (fun h10 => ?_)
  refine r_ifle (pc := 39) X h10 dX1_lastStep_39 (tgt := 61) (by decide) (fun h11 => ?_) (fun h11 => ?_)
  · refine r_iconst (pc := 61) X 0 dX1_lastStep_61 (by decide) ?_
    exact r_iret (pc := 62) X rfl rfl (by decide) dX1_lastStep_62
  · refine r_iload_n (pc := 42) X 1 dX1_lastStep_42 rfl rfl ?_
    refine r_aload_n (pc := 43) X 0 dX1_lastStep_43 rfl rfl ?_
    refine r_get (pc := 44) (v := vI (c 3 0)) X 15 3 inX1 rfl rfl (by decide) tf_X1_28 rfl dX1_lastStep_44 ?_
    refine r_ck1 (fun h12 => ?_)
    refine r_icmp_ge (pc := 47) X h10 h12 dX1_lastStep_47 (tgt := 61) (by decide) (fun h13 => ?_) (fun h13 => ?_)
    · refine r_iconst (pc := 61) X 0 dX1_lastStep_61 (by decide) ?_
      exact r_iret (pc := 62) X rfl rfl (by decide) dX1_lastStep_62
    · refine r_aload_n (pc := 50) X 0 dX1_lastStep_50 rfl rfl ?_
      refine r_get (pc := 51) (v := .ref (kB K + 17)) X 15 4 inX1 rfl rfl (by decide) tf_X1_15 rfl dX1_lastStep_51 ?_
      refine r_iload_n (pc := 54) X 1 dX1_lastStep_54 rfl rfl ?_
      refine r_ckA (fun h14 => ?_)
      refine r_iald (pc := 55) (f := c 4) X 17 h14 zl_3200 rfl dX1_lastStep_55 ?_
      refine r_iconst (pc := 56) X 2 dX1_lastStep_56 (by decide) ?_
      refine r_ck1 (fun h15 => ?_)
      refine r_irem (pc := 57) X h15 (by decide) (by decide) dX1_lastStep_57 ?_
      refine r_goto (pc := 58) X dX1_lastStep_58 (tgt := 62) (by decide) ?_
      exact r_iret (pc := 62) X rfl rfl (by decide) dX1_lastStep_62
theorem c_X1_lastStep (N : Nat) (lt b c ms rd m : Bd) (P : PL) (x1 x2 : Int) (l : Launch) (D : va_G) (E : ET) (a : Int) (ha : f_X1_lastStep N c x1 x2 = some a) : Ct l yX1_lastStep (Cond.code yX1_lastStep cX1_lastStep 5 (some .int) :: lw_g) ({ frames := 0, cells := 0, slots := 0, locals := 0 } : Room) D E [.ref (E.2.2.2 + 15), vI x1, vI x2] (Zw E lt b c ms rd m P) (Zw E lt b c ms rd m P) (some (vI a)) :=
  ct_of (av := fun E => [.ref (E.2.2.2 + 15), vI x1, vI x2]) (W0 := fun E => Zw E lt b c ms rd m P) (W1 := fun E (a : Int) => Zw E lt b c ms rd m P) (rw := fun E a => some (vI a)) (by decide) rfl (fun E => Zw_d E lt b c ms rd m P) (fun E => by simp [lg_sl, z_cat, z_catR, z_catI, z_catL]) (fun K X => r_lv (by simp [lv_args, z_cat, z_catR, z_catI, z_catL]) (t_X1_lastStep N lt b c ms rd m P x1 x2 K X)) l D E a ha
abbrev Q_X1_sameDownTo (K : KT) (lt b c ms rd m : Bd) (P : PL) : (Int × Bd) → State → Prop := Qm K ({ frames := 4, cells := 0, slots := 0, locals := 91 } : Room) (fun a : Int × Bd => Zw (kE K) lt b a.2 ms rd m P) (fun a => some (vI a.1))
set_option maxRecDepth 100000 in
set_option maxHeartbeats 4000000 in
theorem t_X1_sameDownTo_L37 (N : Nat) (lt b c ms rd m : Bd) (P : PL) (x3 x5 x6 : Int) (K : KT) (X : Kok K cX1_sameDownTo yX1_sameDownTo.cls lw_g ({ frames := 4, cells := 0, slots := 0, locals := 91 } : Room) (some .boolean) 8) (k : Int → Bd → Option (Int × Bd)) (hk : ∀ (x4 : Int) (c1 : Bd), Rn K (Q_X1_sameDownTo K lt b c ms rd m P) 0 0 (k x4 c1) 97 [(0, .ref (kB K + 15)), (3, vI x3), (4, vI x4), (5, vI x5)] [] (Zw (kE K) lt b c1 ms rd m P)) : ∀ (n : Nat) (x4 : Int) (c1 : Bd), Rn K (Q_X1_sameDownTo K lt b c ms rd m P) 0 0 (f_X1_sameDownTo_L37 N P x3 x5 x6 k n x4 c1) 37 [(0, .ref (kB K + 15)), (3, vI x3), (4, vI x4), (5, vI x5), (6, vI x6)] [] (Zw (kE K) lt b c1 ms rd m P) := by
  intro n
  induction n with
  | zero =>
    intro x4 c1
    rw [f_X1_sameDownTo_L37]
    exact r_none
  | succ n ih =>
    intro x4 c1
    rw [f_X1_sameDownTo_L37]
    refine r_iload (pc := 37) X 2 dX1_sameDownTo_37 rfl ?_
    refine r_iload (pc := 39) X 4 dX1_sameDownTo_39 rfl ?_
    refine r_ck1 (fun h7 => ?_)
    refine r_ck1 (fun h8 => ?_)
    refine r_icmp_ge (pc := 41) X h7 h8 dX1_sameDownTo_41 (tgt := 97) (by decide) (fun h9 => ?_) (fun h9 => ?_)
    · refine r_sub [0, 1, 2, 3] rfl ?_
      exact hk x4 c1
    · refine r_aload_n (pc := 44) X 0 dX1_sameDownTo_44 rfl rfl ?_
      refine r_get (pc := 45) (v := .ref (kB K + 16)) X 15 2 inX1 rfl rfl (by decide) tf_X1_9 rfl dX1_sameDownTo_45 ?_
      refine r_iload (pc := 48) X 2 dX1_sameDownTo_48 rfl ?_
      refine r_ckA (fun h10 => ?_)
      refine r_iald (pc := 50) (f := c1 2) X 16 h10 zl_3200 rfl dX1_sameDownTo_50 ?_
      refine r_istore (pc := 51) (lv' := [(0, .ref (kB K + 15)), (3, vI x3), (4, vI x4), (5, vI x5), (6, vI x6), (7, vI (c1 2 x4))]) X [1, 2, 3, 4, 5, 0] dX1_sameDownTo_51 (by decide) rfl ?_
      refine r_aload_n (pc := 53) X 0 dX1_sameDownTo_53 rfl rfl ?_
      refine r_get (pc := 54) (v := vG (kB K) (c1 0 0)) X 15 0 inX1 rfl rfl (by decide) tf_X1_21 rfl dX1_sameDownTo_54 ?_
      refine r_aload_n (pc := 57) X 0 dX1_sameDownTo_57 rfl rfl ?_
      refine r_iload (pc := 58) X 5 dX1_sameDownTo_58 rfl ?_
      refine r_callV (pc := 60) (q0 := 15) (ci := 1) (As := [vI (c1 2 x4)]) (rest := [vG (kB K) (c1 0 0)]) (W' := fun q60_11 => (Zw (kE K) lt b c1 ms rd m P)) (rv := fun q60_11 => some (vI q60_11)) X dX1_sameDownTo_60 rfl (fun a ha => c_X1_leftOf N lt b c1 ms rd m P (c1 2 x4) K.1.2.1 K.2.2.1.1 (kE K) a ha) (fun a => Zw_d _ _ _ _ _ _ _ _) gd_X1_57 rfl (n := 1) (by decide) rfl (by decide) rfl rfl rfl (by simp [z_cat, z_catR, z_catI, z_catL]) (fun q60_11 eq60_11 => ?_)
      show Rn K _ 0 0 _ 63 [(0, .ref (kB K + 15)), (3, vI x3), (4, vI x4), (5, vI x5), (6, vI x6), (7, vI (c1 2 x4))] [vI q60_11, vG (kB K) (c1 0 0)] (Zw (kE K) lt b c1 ms rd m P)
      refine r_ckG (fun h12 => ?_)
      refine r_rf1 h12.1 ?_
      refine r_callV (pc := 63) (q0 := (62 + 2 * (c1 0 0).toNat)) (ci := 2) (As := [vI q60_11]) (rest := []) (W' := fun q63_13 => (Zw (kE K) lt b c1 ms rd m P)) (rv := fun q63_13 => some (vI q63_13)) X dX1_sameDownTo_63 rfl (fun a ha => c_X2_headAt N lt b c1 ms rd m P (c1 0 0) h12 q60_11 K.1.2.1 K.2.2.1.1 (kE K) a ha) (fun a => Zw_d _ _ _ _ _ _ _ _) gd_X1_61 rfl (n := 1) (by decide) rfl (by decide) rfl rfl (zg_gobj h12) (Nat.zero_le _) (fun q63_13 eq63_13 => ?_)
      show Rn K _ 0 0 _ 66 [(0, .ref (kB K + 15)), (3, vI x3), (4, vI x4), (5, vI x5), (6, vI x6), (7, vI (c1 2 x4))] [vI q63_13] (Zw (kE K) lt b c1 ms rd m P)
      refine r_aload_n (pc := 66) X 0 dX1_sameDownTo_66 rfl rfl ?_
      refine r_get (pc := 67) (v := vG (kB K) (c1 1 0)) X 15 1 inX1 rfl rfl (by decide) tf_X1_25 rfl dX1_sameDownTo_67 ?_
      refine r_aload_n (pc := 70) X 0 dX1_sameDownTo_70 rfl rfl ?_
      refine r_iload (pc := 71) X 5 dX1_sameDownTo_71 rfl ?_
      refine r_callV (pc := 73) (q0 := 15) (ci := 1) (As := [vI (c1 2 x4)]) (rest := [vG (kB K) (c1 1 0), vI q63_13]) (W' := fun q73_14 => (Zw (kE K) lt b c1 ms rd m P)) (rv := fun q73_14 => some (vI q73_14)) X dX1_sameDownTo_73 rfl (fun a ha => c_X1_rightOf N lt b c1 ms rd m P (c1 2 x4) K.1.2.1 K.2.2.1.1 (kE K) a ha) (fun a => Zw_d _ _ _ _ _ _ _ _) gd_X1_64 rfl (n := 1) (by decide) rfl (by decide) rfl rfl rfl (by simp [z_cat, z_catR, z_catI, z_catL]) (fun q73_14 eq73_14 => ?_)
      show Rn K _ 0 0 _ 76 [(0, .ref (kB K + 15)), (3, vI x3), (4, vI x4), (5, vI x5), (6, vI x6), (7, vI (c1 2 x4))] [vI q73_14, vG (kB K) (c1 1 0), vI q63_13] (Zw (kE K) lt b c1 ms rd m P)
      refine r_ckG (fun h15 => ?_)
      refine r_rf1 h15.1 ?_
      refine r_callV (pc := 76) (q0 := (62 + 2 * (c1 1 0).toNat)) (ci := 2) (As := [vI q73_14]) (rest := [vI q63_13]) (W' := fun q76_16 => (Zw (kE K) lt b c1 ms rd m P)) (rv := fun q76_16 => some (vI q76_16)) X dX1_sameDownTo_76 rfl (fun a ha => c_X2_headAt N lt b c1 ms rd m P (c1 1 0) h15 q73_14 K.1.2.1 K.2.2.1.1 (kE K) a ha) (fun a => Zw_d _ _ _ _ _ _ _ _) gd_X1_61 rfl (n := 1) (by decide) rfl (by decide) rfl rfl (zg_gobj h15) (by simp [z_cat, z_catR, z_catI, z_catL]) (fun q76_16 eq76_16 => ?_)
      show Rn K _ 0 0 _ 79 [(0, .ref (kB K + 15)), (3, vI x3), (4, vI x4), (5, vI x5), (6, vI x6), (7, vI (c1 2 x4))] [vI q76_16, vI q63_13] (Zw (kE K) lt b c1 ms rd m P)
      refine r_ck1 (fun h17 => ?_)
      refine r_ck1 (fun h18 => ?_)
      refine r_icmp_eq (pc := 79) X h17 h18 dX1_sameDownTo_79 (tgt := 84) (by decide) (fun h19 => ?_) (fun h19 => ?_)
      · refine r_aload_n (pc := 84) X 0 dX1_sameDownTo_84 rfl rfl ?_
        refine r_iload (pc := 85) X 2 dX1_sameDownTo_85 rfl ?_
        refine r_iconst (pc := 87) X 0 dX1_sameDownTo_87 (by decide) ?_
        refine r_callV (pc := 88) (q0 := 15) (ci := 1) (As := [vI x4, vI 0]) (rest := []) (W' := fun q88_20 => (Zw (kE K) lt b q88_20 ms rd m P)) (rv := fun q88_20 => none) X dX1_sameDownTo_88 rfl (fun a ha => c_X1_meetParts N lt b c1 ms rd m P x4 0 K.1.2.1 K.2.2.1.1 (kE K) a ha) (fun a => Zw_d _ _ _ _ _ _ _ _) gd_X1_71 rfl (n := 2) (by decide) rfl (by decide) rfl rfl rfl (Nat.zero_le _) (fun q88_20 eq88_20 => ?_)
        show Rn K _ 0 0 _ 91 [(0, .ref (kB K + 15)), (3, vI x3), (4, vI x4), (5, vI x5), (6, vI x6), (7, vI (c1 2 x4))] [] (Zw (kE K) lt b q88_20 ms rd m P)
        refine r_iinc (pc := 91) (lv' := [(0, .ref (kB K + 15)), (3, vI x3), (4, vI (x4 + 1)), (5, vI x5), (6, vI x6), (7, vI (c1 2 x4))]) X 2 [1, 2, 0, 3, 4, 5] dX1_sameDownTo_91 rfl (by decide) rfl ?_
        refine r_goto (pc := 94) X dX1_sameDownTo_94 (tgt := 37) (by decide) ?_
        refine r_sub [0, 1, 2, 3, 4] rfl ?_
        exact ih (x4 + 1) q88_20
      · refine r_iconst (pc := 82) X 0 dX1_sameDownTo_82 (by decide) ?_
        exact r_zret (pc := 83) X (by decide) rfl rfl (by decide) dX1_sameDownTo_83
set_option maxRecDepth 100000 in
set_option maxHeartbeats 4000000 in
theorem t_X1_sameDownTo_L25 (N : Nat) (lt b c ms rd m : Bd) (P : PL) (x3 : Int) (K : KT) (X : Kok K cX1_sameDownTo yX1_sameDownTo.cls lw_g ({ frames := 4, cells := 0, slots := 0, locals := 91 } : Room) (some .boolean) 8) (k : Bd → Option (Int × Bd)) (hk : ∀ (c1 : Bd), Rn K (Q_X1_sameDownTo K lt b c ms rd m P) 0 0 (k c1) 103 [] [] (Zw (kE K) lt b c1 ms rd m P)) : ∀ (n : Nat) (x4 : Int) (x5 : Int) (c1 : Bd), Rn K (Q_X1_sameDownTo K lt b c ms rd m P) 0 0 (f_X1_sameDownTo_L25 N P x3 k n x4 x5 c1) 25 [(0, .ref (kB K + 15)), (3, vI x3), (4, vI x4), (5, vI x5)] [] (Zw (kE K) lt b c1 ms rd m P) := by
  intro n
  induction n with
  | zero =>
    intro x4 x5 c1
    rw [f_X1_sameDownTo_L25]
    exact r_none
  | succ n ih =>
    intro x4 x5 c1
    rw [f_X1_sameDownTo_L25]
    refine r_iload (pc := 25) X 3 dX1_sameDownTo_25 rfl ?_
    refine r_iload_n (pc := 27) X 1 dX1_sameDownTo_27 rfl rfl ?_
    refine r_ck1 (fun h4 => ?_)
    refine r_ck1 (fun h5 => ?_)
    refine r_icmp_gt (pc := 28) X h4 h5 dX1_sameDownTo_28 (tgt := 103) (by decide) (fun h6 => ?_) (fun h6 => ?_)
    · refine r_sub [] rfl ?_
      exact hk c1
    · refine r_aload_n (pc := 31) X 0 dX1_sameDownTo_31 rfl rfl ?_
      refine r_get (pc := 32) (v := vI (c1 3 0)) X 15 3 inX1 rfl rfl (by decide) tf_X1_28 rfl dX1_sameDownTo_32 ?_
      refine r_istore (pc := 35) (lv' := [(0, .ref (kB K + 15)), (3, vI x3), (4, vI x4), (5, vI x5), (6, vI (c1 3 0))]) X [1, 2, 3, 4, 0] dX1_sameDownTo_35 (by decide) rfl ?_
      refine t_X1_sameDownTo_L37 N lt b c ms rd m P  x3 x5 (c1 3 0) K X _ ?_ N x4 c1
      intro x4_37 c_37
      refine r_iinc (pc := 97) (lv' := [(0, .ref (kB K + 15)), (3, vI x3), (4, vI x4_37), (5, vI (x5 + 1))]) X 3 [1, 2, 3, 0] dX1_sameDownTo_97 rfl (by decide) rfl ?_
      refine r_goto (pc := 100) X dX1_sameDownTo_100 (tgt := 25) (by decide) ?_
      exact ih x4_37 (x5 + 1) c_37
set_option maxRecDepth 100000 in
set_option maxHeartbeats 4000000 in
theorem t_X1_sameDownTo (N : Nat) (lt b c ms rd m : Bd) (P : PL) (x1 x2 x3 : Int) (K : KT) (X : Kok K cX1_sameDownTo yX1_sameDownTo.cls lw_g ({ frames := 4, cells := 0, slots := 0, locals := 91 } : Room) (some .boolean) 8) : Rn K (Q_X1_sameDownTo K lt b c ms rd m P) 0 0 (f_X1_sameDownTo N c P x1 x2 x3) 0 [(0, .ref (kB K + 15)), (1, vG (kB K) x1), (2, vG (kB K) x2), (3, vI x3)] [] (Zw (kE K) lt b c ms rd m P) := by
  unfold f_X1_sameDownTo
  refine r_aload_n (pc := 0) X 0 dX1_sameDownTo_0 rfl rfl ?_
  refine r_gload_n (pc := 1) X 1 dX1_sameDownTo_1 rfl rfl ?_
  refine r_gload_n (pc := 2) X 2 dX1_sameDownTo_2 rfl rfl ?_
  refine r_callV (pc := 3) (q0 := 15) (ci := 1) (As := [vG (kB K) x1, vG (kB K) x2]) (rest := []) (W' := fun q3_1 => (Zw (kE K) lt b q3_1 ms rd m P)) (rv := fun q3_1 => none) X dX1_sameDownTo_3 rfl (fun a ha => c_X1_start N lt b c ms rd m P x1 x2 K.1.2.1 K.2.2.1.1 (kE K) a ha) (fun a => Zw_d _ _ _ _ _ _ _ _) gd_X1_41 rfl (n := 2) (by decide) rfl (by decide) rfl rfl rfl (Nat.zero_le _) (fun q3_1 eq3_1 => ?_)
  show Rn K _ 0 0 _ 6 [(0, .ref (kB K + 15)), (1, vG (kB K) x1), (2, vG (kB K) x2), (3, vI x3)] [] (Zw (kE K) lt b q3_1 ms rd m P)
  refine r_aload_n (pc := 6) X 0 dX1_sameDownTo_6 rfl rfl ?_
  refine r_aload_n (pc := 7) X 0 dX1_sameDownTo_7 rfl rfl ?_
  refine r_iconst (pc := 8) X 0 dX1_sameDownTo_8 (by decide) ?_
  refine r_iconst (pc := 9) X 0 dX1_sameDownTo_9 (by decide) ?_
  refine r_iconst (pc := 10) X 0 dX1_sameDownTo_10 (by decide) ?_
  refine r_callV (pc := 11) (q0 := 15) (ci := 1) (As := [vI 0, vI 0, vI 0]) (rest := [.ref (kB K + 15)]) (W' := fun q11_2 => (Zw (kE K) lt b q3_1 ms rd m P)) (rv := fun q11_2 => some (vI q11_2)) X dX1_sameDownTo_11 rfl (fun a ha => c_X1_numberOf N lt b q3_1 ms rd m P 0 0 0 K.1.2.1 K.2.2.1.1 (kE K) a ha) (fun a => Zw_d _ _ _ _ _ _ _ _) gd_X1_45 rfl (n := 3) (by decide) rfl (by decide) rfl rfl rfl (by simp [z_cat, z_catR, z_catI, z_catL]) (fun q11_2 eq11_2 => ?_)
  show Rn K _ 0 0 _ 14 [(0, .ref (kB K + 15)), (1, vG (kB K) x1), (2, vG (kB K) x2), (3, vI x3)] [vI q11_2, .ref (kB K + 15)] (Zw (kE K) lt b q3_1 ms rd m P)
  refine r_iconst (pc := 14) X 1 dX1_sameDownTo_14 (by decide) ?_
  refine r_iconst (pc := 15) X (-1) dX1_sameDownTo_15 (by decide) ?_
  refine r_callV (pc := 16) (q0 := 15) (ci := 1) (As := [vI q11_2, vI 1, vI (-1)]) (rest := []) (W' := fun q16_3 => (Zw (kE K) lt b q16_3 ms rd m P)) (rv := fun q16_3 => none) X dX1_sameDownTo_16 rfl (fun a ha => c_X1_meet N lt b q3_1 ms rd m P q11_2 1 (-1) K.1.2.1 K.2.2.1.1 (kE K) a ha) (fun a => Zw_d _ _ _ _ _ _ _ _) gd_X1_49 rfl (n := 3) (by decide) rfl (by decide) rfl rfl rfl (Nat.zero_le _) (fun q16_3 eq16_3 => ?_)
  show Rn K _ 0 0 _ 19 [(0, .ref (kB K + 15)), (1, vG (kB K) x1), (2, vG (kB K) x2), (3, vI x3)] [] (Zw (kE K) lt b q16_3 ms rd m P)
  refine r_iconst (pc := 19) X 0 dX1_sameDownTo_19 (by decide) ?_
  refine r_istore (pc := 20) (lv' := [(0, .ref (kB K + 15)), (1, vG (kB K) x1), (2, vG (kB K) x2), (3, vI x3), (4, vI 0)]) X [1, 2, 3, 4, 0] dX1_sameDownTo_20 (by decide) rfl ?_
  refine r_iconst (pc := 22) X 0 dX1_sameDownTo_22 (by decide) ?_
  refine r_istore (pc := 23) (lv' := [(0, .ref (kB K + 15)), (1, vG (kB K) x1), (2, vG (kB K) x2), (3, vI x3), (4, vI 0), (5, vI 0)]) X [1, 2, 3, 4, 5, 0] dX1_sameDownTo_23 (by decide) rfl ?_
  refine r_sub [0, 3, 4, 5] rfl ?_
  refine t_X1_sameDownTo_L25 N lt b c ms rd m P  x3 K X _ ?_ N 0 0 q16_3
  intro c_25
  refine r_iconst (pc := 103) X 1 dX1_sameDownTo_103 (by decide) ?_
  exact r_zret (pc := 104) X (by decide) rfl rfl (by decide) dX1_sameDownTo_104
theorem c_X1_sameDownTo (N : Nat) (lt b c ms rd m : Bd) (P : PL) (x1 x2 x3 : Int) (l : Launch) (D : va_G) (E : ET) (a : Int × Bd) (ha : f_X1_sameDownTo N c P x1 x2 x3 = some a) : Ct l yX1_sameDownTo (Cond.code yX1_sameDownTo cX1_sameDownTo 8 (some .boolean) :: lw_g) ({ frames := 4, cells := 0, slots := 0, locals := 91 } : Room) D E [.ref (E.2.2.2 + 15), vG (E.2.2.2) x1, vG (E.2.2.2) x2, vI x3] (Zw E lt b c ms rd m P) (Zw E lt b a.2 ms rd m P) (some (vI a.1)) :=
  ct_of (av := fun E => [.ref (E.2.2.2 + 15), vG (E.2.2.2) x1, vG (E.2.2.2) x2, vI x3]) (W0 := fun E => Zw E lt b c ms rd m P) (W1 := fun E (a : Int × Bd) => Zw E lt b a.2 ms rd m P) (rw := fun E a => some (vI a.1)) (by decide) rfl (fun E => Zw_d E lt b c ms rd m P) (fun E => by simp [lg_sl, z_cat, z_catR, z_catI, z_catL]) (fun K X => r_lv (by simp [lv_args, z_cat, z_catR, z_catI, z_catL]) (t_X1_sameDownTo N lt b c ms rd m P x1 x2 x3 K X)) l D E a ha
abbrev Q_X1_boundHead (K : KT) (lt b c ms rd m : Bd) (P : PL) : (Int) → State → Prop := Qm K ({ frames := 0, cells := 0, slots := 0, locals := 0 } : Room) (fun a : Int => Zw (kE K) lt b c ms rd m P) (fun a => some (vI a))
set_option maxRecDepth 100000 in
set_option maxHeartbeats 4000000 in
theorem t_X1_boundHead (N : Nat) (lt b c ms rd m : Bd) (P : PL) (x0 x1 x2 : Int) (K : KT) (X : Kok K cX1_boundHead yX1_boundHead.cls lw_g ({ frames := 0, cells := 0, slots := 0, locals := 0 } : Room) (some .int) 3) : Rn K (Q_X1_boundHead K lt b c ms rd m P) 0 0 (f_X1_boundHead x0 x1 x2) 0 [(0, vI x0), (1, vI x1), (2, vI x2)] [] (Zw (kE K) lt b c ms rd m P) := by
  unfold f_X1_boundHead
  refine r_iload_n (pc := 0) X 0 dX1_boundHead_0 rfl rfl ?_
  refine r_iload_n (pc := 1) X 1 dX1_boundHead_1 rfl rfl ?_
  refine r_ck1 (fun h1 => ?_)
  refine r_ck1 (fun h2 => ?_)
  refine r_icmp_ne (pc := 2) X h1 h2 dX1_boundHead_2 (tgt := 7) (by decide) (fun h3 => ?_) (fun h3 => ?_)
  · refine r_iload_n (pc := 7) X 0 dX1_boundHead_7 rfl rfl ?_
    refine r_iconst (pc := 8) X 1 dX1_boundHead_8 (by decide) ?_
    refine r_jn (J := fun j17 => Rn K (Q_X1_boundHead K lt b c ms rd m P) 0 0 j17 17 [(0, vI x0), (1, vI x1), (2, vI x2)] [] (Zw (kE K) lt b c ms rd m P)) ?_ (fun j17 hj17 => ?_)
    · skip
      refine r_iload_n (pc := 17) X 0 dX1_boundHead_17 rfl rfl ?_
      refine r_iconst (pc := 18) X 2 dX1_boundHead_18 (by decide) ?_
      refine r_icmp_ne (pc := 19) X h1 (by decide) dX1_boundHead_19 (tgt := 37) (by decide) (fun h4 => ?_) (fun h4 => ?_)
      · refine r_iload_n (pc := 37) X 2 dX1_boundHead_37 rfl rfl ?_
        refine r_ck1 (fun h5 => ?_)
        refine r_jn (J := fun j46 => ∀ (s_46 : Int), Rn K (Q_X1_boundHead K lt b c ms rd m P) 0 0 (j46 s_46) 46 [(0, vI x0), (1, vI x1), (2, vI x2)] [vI s_46] (Zw (kE K) lt b c ms rd m P)) ?_ (fun j46 hj46 => ?_)
        · intro s_46
          exact r_iret (pc := 46) X rfl rfl (by decide) dX1_boundHead_46
        refine r_eq (z_ite j46) ?_
        refine r_ifeq (pc := 38) X h5 dX1_boundHead_38 (tgt := 45) (by decide) (fun h6 => ?_) (fun h6 => ?_)
        · refine r_iconst (pc := 45) X 0 dX1_boundHead_45 (by decide) ?_
          exact hj46 0
        · refine r_iconst (pc := 41) X 3 dX1_boundHead_41 (by decide) ?_
          refine r_goto (pc := 42) X dX1_boundHead_42 (tgt := 46) (by decide) ?_
          exact hj46 3
      · refine r_iload_n (pc := 22) X 1 dX1_boundHead_22 rfl rfl ?_
        refine r_iconst (pc := 23) X 1 dX1_boundHead_23 (by decide) ?_
        refine r_icmp_ne (pc := 24) X h2 (by decide) dX1_boundHead_24 (tgt := 37) (by decide) (fun h7 => ?_) (fun h7 => ?_)
        · refine r_iload_n (pc := 37) X 2 dX1_boundHead_37 rfl rfl ?_
          refine r_ck1 (fun h8 => ?_)
          refine r_jn (J := fun j46 => ∀ (s_46 : Int), Rn K (Q_X1_boundHead K lt b c ms rd m P) 0 0 (j46 s_46) 46 [(0, vI x0), (1, vI x1), (2, vI x2)] [vI s_46] (Zw (kE K) lt b c ms rd m P)) ?_ (fun j46 hj46 => ?_)
          · intro s_46
            exact r_iret (pc := 46) X rfl rfl (by decide) dX1_boundHead_46
          refine r_eq (z_ite j46) ?_
          refine r_ifeq (pc := 38) X h8 dX1_boundHead_38 (tgt := 45) (by decide) (fun h9 => ?_) (fun h9 => ?_)
          · refine r_iconst (pc := 45) X 0 dX1_boundHead_45 (by decide) ?_
            exact hj46 0
          · refine r_iconst (pc := 41) X 3 dX1_boundHead_41 (by decide) ?_
            refine r_goto (pc := 42) X dX1_boundHead_42 (tgt := 46) (by decide) ?_
            exact hj46 3
        · refine r_iload_n (pc := 27) X 2 dX1_boundHead_27 rfl rfl ?_
          refine r_ck1 (fun h10 => ?_)
          refine r_jn (J := fun j36 => ∀ (s_36 : Int), Rn K (Q_X1_boundHead K lt b c ms rd m P) 0 0 (j36 s_36) 36 [(0, vI x0), (1, vI x1), (2, vI x2)] [vI s_36] (Zw (kE K) lt b c ms rd m P)) ?_ (fun j36 hj36 => ?_)
          · intro s_36
            exact r_iret (pc := 36) X rfl rfl (by decide) dX1_boundHead_36
          refine r_eq (z_ite j36) ?_
          refine r_ifeq (pc := 28) X h10 dX1_boundHead_28 (tgt := 35) (by decide) (fun h11 => ?_) (fun h11 => ?_)
          · refine r_iconst (pc := 35) X 1 dX1_boundHead_35 (by decide) ?_
            exact hj36 1
          · refine r_iconst (pc := 31) X 2 dX1_boundHead_31 (by decide) ?_
            refine r_goto (pc := 32) X dX1_boundHead_32 (tgt := 36) (by decide) ?_
            exact hj36 2
    refine r_icmp_ne (pc := 9) X h1 (by decide) dX1_boundHead_9 (tgt := 17) (by decide) (fun h12 => ?_) (fun h12 => ?_)
    · exact hj17
    · refine r_iload_n (pc := 12) X 1 dX1_boundHead_12 rfl rfl ?_
      refine r_iconst (pc := 13) X 2 dX1_boundHead_13 (by decide) ?_
      refine r_icmp_eq (pc := 14) X h2 (by decide) dX1_boundHead_14 (tgt := 27) (by decide) (fun h13 => ?_) (fun h13 => ?_)
      · refine r_iload_n (pc := 27) X 2 dX1_boundHead_27 rfl rfl ?_
        refine r_ck1 (fun h14 => ?_)
        refine r_jn (J := fun j36 => ∀ (s_36 : Int), Rn K (Q_X1_boundHead K lt b c ms rd m P) 0 0 (j36 s_36) 36 [(0, vI x0), (1, vI x1), (2, vI x2)] [vI s_36] (Zw (kE K) lt b c ms rd m P)) ?_ (fun j36 hj36 => ?_)
        · intro s_36
          exact r_iret (pc := 36) X rfl rfl (by decide) dX1_boundHead_36
        refine r_eq (z_ite j36) ?_
        refine r_ifeq (pc := 28) X h14 dX1_boundHead_28 (tgt := 35) (by decide) (fun h15 => ?_) (fun h15 => ?_)
        · refine r_iconst (pc := 35) X 1 dX1_boundHead_35 (by decide) ?_
          exact hj36 1
        · refine r_iconst (pc := 31) X 2 dX1_boundHead_31 (by decide) ?_
          refine r_goto (pc := 32) X dX1_boundHead_32 (tgt := 36) (by decide) ?_
          exact hj36 2
      · exact hj17
  · refine r_iload_n (pc := 5) X 0 dX1_boundHead_5 rfl rfl ?_
    exact r_iret (pc := 6) X rfl rfl (by decide) dX1_boundHead_6
theorem c_X1_boundHead (N : Nat) (lt b c ms rd m : Bd) (P : PL) (x0 x1 x2 : Int) (l : Launch) (D : va_G) (E : ET) (a : Int) (ha : f_X1_boundHead x0 x1 x2 = some a) : Ct l yX1_boundHead (Cond.code yX1_boundHead cX1_boundHead 3 (some .int) :: lw_g) ({ frames := 0, cells := 0, slots := 0, locals := 0 } : Room) D E [vI x0, vI x1, vI x2] (Zw E lt b c ms rd m P) (Zw E lt b c ms rd m P) (some (vI a)) :=
  ct_of (av := fun E => [vI x0, vI x1, vI x2]) (W0 := fun E => Zw E lt b c ms rd m P) (W1 := fun E (a : Int) => Zw E lt b c ms rd m P) (rw := fun E a => some (vI a)) (by decide) rfl (fun E => Zw_d E lt b c ms rd m P) (fun E => by simp [lg_sl, z_cat, z_catR, z_catI, z_catL]) (fun K X => r_lv (by simp [lv_args, z_cat, z_catR, z_catI, z_catL]) (t_X1_boundHead N lt b c ms rd m P x0 x1 x2 K X)) l D E a ha
abbrev Q_X1_boundNode (K : KT) (lt b c ms rd m : Bd) (P : PL) : (Int × Bd × Bd) → State → Prop := Qm K ({ frames := 2, cells := 0, slots := 0, locals := 44 } : Room) (fun a : Int × Bd × Bd => Zw (kE K) lt a.2.1 a.2.2 ms rd m P) (fun a => some (vI a.1))
set_option maxRecDepth 100000 in
set_option maxHeartbeats 4000000 in
theorem t_X1_boundNode (N : Nat) (lt b c ms rd m : Bd) (P : PL) (x1 x2 x3 : Int) (K : KT) (X : Kok K cX1_boundNode yX1_boundNode.cls lw_g ({ frames := 2, cells := 0, slots := 0, locals := 44 } : Room) (some .int) 9) : Rn K (Q_X1_boundNode K lt b c ms rd m P) 0 0 (f_X1_boundNode b c P x1 x2 x3) 0 [(0, .ref (kB K + 15)), (1, vI x1), (2, vI x2), (3, vI x3), (4, .ref (kB K + 5))] [] (Zw (kE K) lt b c ms rd m P) := by
  unfold f_X1_boundNode
  refine r_aload_n (pc := 0) X 0 dX1_boundNode_0 rfl rfl ?_
  refine r_get (pc := 1) (v := vG (kB K) (c 0 0)) X 15 0 inX1 rfl rfl (by decide) tf_X1_21 rfl dX1_boundNode_1 ?_
  refine r_iload_n (pc := 4) X 1 dX1_boundNode_4 rfl rfl ?_
  refine r_ckG (fun h1 => ?_)
  refine r_rf1 h1.1 ?_
  refine r_callV (pc := 5) (q0 := (62 + 2 * (c 0 0).toNat)) (ci := 2) (As := [vI x1]) (rest := []) (W' := fun q5_2 => (Zw (kE K) lt b c ms rd m P)) (rv := fun q5_2 => some (vI q5_2)) X dX1_boundNode_5 rfl (fun a ha => c_X2_headAt N lt b c ms rd m P (c 0 0) h1 x1 K.1.2.1 K.2.2.1.1 (kE K) a ha) (fun a => Zw_d _ _ _ _ _ _ _ _) gd_X1_61 rfl (n := 1) (by decide) rfl (by decide) rfl rfl (zg_gobj h1) (Nat.zero_le _) (fun q5_2 eq5_2 => ?_)
  show Rn K _ 0 0 _ 8 [(0, .ref (kB K + 15)), (1, vI x1), (2, vI x2), (3, vI x3), (4, .ref (kB K + 5))] [vI q5_2] (Zw (kE K) lt b c ms rd m P)
  refine r_istore (pc := 8) (lv' := [(0, .ref (kB K + 15)), (1, vI x1), (2, vI x2), (3, vI x3), (4, .ref (kB K + 5)), (5, vI q5_2)]) X [1, 2, 3, 4, 5, 0] dX1_boundNode_8 (by decide) rfl ?_
  refine r_aload_n (pc := 10) X 0 dX1_boundNode_10 rfl rfl ?_
  refine r_get (pc := 11) (v := vG (kB K) (c 1 0)) X 15 1 inX1 rfl rfl (by decide) tf_X1_25 rfl dX1_boundNode_11 ?_
  refine r_iload_n (pc := 14) X 2 dX1_boundNode_14 rfl rfl ?_
  refine r_ckG (fun h3 => ?_)
  refine r_rf1 h3.1 ?_
  refine r_callV (pc := 15) (q0 := (62 + 2 * (c 1 0).toNat)) (ci := 2) (As := [vI x2]) (rest := []) (W' := fun q15_4 => (Zw (kE K) lt b c ms rd m P)) (rv := fun q15_4 => some (vI q15_4)) X dX1_boundNode_15 rfl (fun a ha => c_X2_headAt N lt b c ms rd m P (c 1 0) h3 x2 K.1.2.1 K.2.2.1.1 (kE K) a ha) (fun a => Zw_d _ _ _ _ _ _ _ _) gd_X1_61 rfl (n := 1) (by decide) rfl (by decide) rfl rfl (zg_gobj h3) (Nat.zero_le _) (fun q15_4 eq15_4 => ?_)
  show Rn K _ 0 0 _ 18 [(0, .ref (kB K + 15)), (1, vI x1), (2, vI x2), (3, vI x3), (4, .ref (kB K + 5)), (5, vI q5_2)] [vI q15_4] (Zw (kE K) lt b c ms rd m P)
  refine r_istore (pc := 18) (lv' := [(0, .ref (kB K + 15)), (1, vI x1), (2, vI x2), (3, vI x3), (4, .ref (kB K + 5)), (5, vI q5_2), (6, vI q15_4)]) X [1, 2, 3, 4, 5, 6, 0] dX1_boundNode_18 (by decide) rfl ?_
  refine r_iload_n (pc := 20) X 3 dX1_boundNode_20 rfl rfl ?_
  refine r_jn (J := fun j29 => ∀ (s0_29 : Int), Rn K (Q_X1_boundNode K lt b c ms rd m P) 0 0 (j29 s0_29) 29 [(0, .ref (kB K + 15)), (1, vI x1), (2, vI x2), (3, vI x3), (4, .ref (kB K + 5)), (5, vI q5_2), (6, vI q15_4)] [vI s0_29] (Zw (kE K) lt b c ms rd m P)) ?_ (fun j29 hj29 => ?_)
  · intro s0_29
    refine r_istore (pc := 29) (lv' := [(0, .ref (kB K + 15)), (1, vI x1), (2, vI x2), (3, vI x3), (4, .ref (kB K + 5)), (5, vI q5_2), (6, vI q15_4), (7, vI s0_29)]) X [1, 2, 3, 4, 5, 6, 7, 0] dX1_boundNode_29 (by decide) rfl ?_
    refine r_iload (pc := 31) X 5 dX1_boundNode_31 rfl ?_
    refine r_iload (pc := 33) X 7 dX1_boundNode_33 rfl ?_
    refine r_ck1 (fun h5 => ?_)
    refine r_ck1 (fun h6 => ?_)
    refine r_icmp_ne (pc := 35) X h5 h6 dX1_boundNode_35 (tgt := 48) (by decide) (fun h7 => ?_) (fun h7 => ?_)
    · refine r_iload (pc := 48) X 6 dX1_boundNode_48 rfl ?_
      refine r_iload (pc := 50) X 7 dX1_boundNode_50 rfl ?_
      refine r_ck1 (fun h8 => ?_)
      refine r_icmp_ne (pc := 52) X h8 h6 dX1_boundNode_52 (tgt := 57) (by decide) (fun h9 => ?_) (fun h9 => ?_)
      · refine r_aload_n (pc := 57) X 0 dX1_boundNode_57 rfl rfl ?_
        refine r_iload_n (pc := 58) X 1 dX1_boundNode_58 rfl rfl ?_
        refine r_iload_n (pc := 59) X 2 dX1_boundNode_59 rfl rfl ?_
        refine r_iload_n (pc := 60) X 3 dX1_boundNode_60 rfl rfl ?_
        refine r_jn (J := fun j69 => ∀ (s3_69 : Int), Rn K (Q_X1_boundNode K lt b c ms rd m P) 0 0 (j69 s3_69) 69 [(0, .ref (kB K + 15)), (3, vI x3), (4, .ref (kB K + 5)), (5, vI q5_2), (6, vI q15_4)] [vI s3_69, vI x2, vI x1, .ref (kB K + 15)] (Zw (kE K) lt b c ms rd m P)) ?_ (fun j69 hj69 => ?_)
        · intro s3_69
          refine r_callV (pc := 69) (q0 := 15) (ci := 1) (As := [vI x1, vI x2, vI s3_69]) (rest := []) (W' := fun q69_10 => (Zw (kE K) lt b c ms rd m P)) (rv := fun q69_10 => some (vI q69_10)) X dX1_boundNode_69 rfl (fun a ha => c_X1_numberOf N lt b c ms rd m P x1 x2 s3_69 K.1.2.1 K.2.2.1.1 (kE K) a ha) (fun a => Zw_d _ _ _ _ _ _ _ _) gd_X1_45 rfl (n := 3) (by decide) rfl (by decide) rfl rfl rfl (Nat.zero_le _) (fun q69_10 eq69_10 => ?_)
          show Rn K _ 0 0 _ 72 [(0, .ref (kB K + 15)), (3, vI x3), (4, .ref (kB K + 5)), (5, vI q5_2), (6, vI q15_4)] [vI q69_10] (Zw (kE K) lt b c ms rd m P)
          refine r_istore (pc := 72) (lv' := [(0, .ref (kB K + 15)), (3, vI x3), (4, .ref (kB K + 5)), (5, vI q5_2), (6, vI q15_4), (8, vI q69_10)]) X [1, 2, 3, 4, 5, 0] dX1_boundNode_72 (by decide) rfl ?_
          refine r_iload (pc := 74) X 5 dX1_boundNode_74 rfl ?_
          refine r_ck1 (fun h11 => ?_)
          refine r_iflt (pc := 76) X h11 dX1_boundNode_76 (tgt := 87) (by decide) (fun h12 => ?_) (fun h12 => ?_)
          · refine r_iconst (pc := 87) X 0 dX1_boundNode_87 (by decide) ?_
            exact r_iret (pc := 88) X rfl rfl (by decide) dX1_boundNode_88
          · refine r_iload (pc := 79) X 5 dX1_boundNode_79 rfl ?_
            refine r_sipush (pc := 81) X 3200 dX1_boundNode_81 (by decide) ?_
            refine r_icmp_lt (pc := 84) X h11 (by decide) dX1_boundNode_84 (tgt := 89) (by decide) (fun h13 => ?_) (fun h13 => ?_)
            · refine r_aload_n (pc := 89) X 0 dX1_boundNode_89 rfl rfl ?_
              refine r_get (pc := 90) (v := .ref (kB K + 18)) X 15 5 inX1 rfl rfl (by decide) tf_X1_18 rfl dX1_boundNode_90 ?_
              refine r_iload (pc := 93) X 5 dX1_boundNode_93 rfl ?_
              refine r_ckA (fun h14 => ?_)
              refine r_iald (pc := 95) (f := c 5) X 18 h14 zl_3200 rfl dX1_boundNode_95 ?_
              refine r_iconst (pc := 96) X (-1) dX1_boundNode_96 (by decide) ?_
              refine r_ck1 (fun h15 => ?_)
              refine r_icmp_ne (pc := 97) X h15 (by decide) dX1_boundNode_97 (tgt := 122) (by decide) (fun h16 => ?_) (fun h16 => ?_)
              · refine r_aload_n (pc := 122) X 0 dX1_boundNode_122 rfl rfl ?_
                refine r_get (pc := 123) (v := .ref (kB K + 18)) X 15 5 inX1 rfl rfl (by decide) tf_X1_18 rfl dX1_boundNode_123 ?_
                refine r_iload (pc := 126) X 5 dX1_boundNode_126 rfl ?_
                refine r_iald (pc := 128) (f := c 5) X 18 h14 zl_3200 rfl dX1_boundNode_128 ?_
                exact r_iret (pc := 129) X rfl rfl (by decide) dX1_boundNode_129
              · refine r_aload_n (pc := 100) X 0 dX1_boundNode_100 rfl rfl ?_
                refine r_iload (pc := 101) X 5 dX1_boundNode_101 rfl ?_
                refine r_aload (pc := 103) X 2 dX1_boundNode_103 rfl ?_
                refine r_iload (pc := 105) X 3 dX1_boundNode_105 rfl ?_
                refine r_iload (pc := 107) X 4 dX1_boundNode_107 rfl ?_
                refine r_iload_n (pc := 109) X 1 dX1_boundNode_109 rfl rfl ?_
                refine r_callS (pc := 110) (As := [vI q5_2, vI q15_4, vI x3]) (rest := [.ref (kB K + 5), vI q69_10, .ref (kB K + 15)]) (W' := fun q110_17 => (Zw (kE K) lt b c ms rd m P)) (rv := fun q110_17 => some (vI q110_17)) X dX1_boundNode_110 rfl (fun a ha => c_X1_boundHead N lt b c ms rd m P q5_2 q15_4 x3 K.1.2.1 K.2.2.1.1 (kE K) a ha) (fun a => Zw_d _ _ _ _ _ _ _ _) gd_X1_104 rfl (n := 3) (by decide) rfl (by decide) (by simp [z_cat, z_catR, z_catI, z_catL]) (fun q110_17 eq110_17 => ?_)
                show Rn K _ 0 0 _ 113 [(0, .ref (kB K + 15)), (3, vI x3), (4, .ref (kB K + 5)), (5, vI q5_2), (6, vI q15_4), (8, vI q69_10)] [vI q110_17, .ref (kB K + 5), vI q69_10, .ref (kB K + 15)] (Zw (kE K) lt b c ms rd m P)
                refine r_iconst (pc := 113) X 0 dX1_boundNode_113 (by decide) ?_
                refine r_iconst (pc := 114) X 0 dX1_boundNode_114 (by decide) ?_
                refine r_callV (pc := 115) (q0 := 5) (ci := 0) (As := [vI q110_17, vI 0, vI 0]) (rest := [vI q69_10, .ref (kB K + 15)]) (W' := fun q115_18 => (Zw (kE K) lt q115_18.2 c ms rd m P)) (rv := fun q115_18 => some (vI q115_18.1)) X dX1_boundNode_115 rfl (fun a ha => c_X0_put N lt b c ms rd m P q110_17 0 0 K.1.2.1 K.2.2.1.1 (kE K) a ha) (fun a => Zw_d _ _ _ _ _ _ _ _) gd_X1_107 rfl (n := 3) (by decide) rfl (by decide) rfl rfl rfl (by simp [z_cat, z_catR, z_catI, z_catL]) (fun q115_18 eq115_18 => ?_)
                show Rn K _ 0 0 _ 118 [(0, .ref (kB K + 15)), (3, vI x3), (4, .ref (kB K + 5)), (5, vI q5_2), (6, vI q15_4), (8, vI q69_10)] [vI q115_18.1, vI q69_10, .ref (kB K + 15)] (Zw (kE K) lt q115_18.2 c ms rd m P)
                refine r_iconst (pc := 118) X (-1) dX1_boundNode_118 (by decide) ?_
                refine r_callV (pc := 119) (q0 := 15) (ci := 1) (As := [vI q69_10, vI q115_18.1, vI (-1)]) (rest := []) (W' := fun q119_19 => (Zw (kE K) lt q115_18.2 q119_19 ms rd m P)) (rv := fun q119_19 => none) X dX1_boundNode_119 rfl (fun a ha => c_X1_meet N lt q115_18.2 c ms rd m P q69_10 q115_18.1 (-1) K.1.2.1 K.2.2.1.1 (kE K) a ha) (fun a => Zw_d _ _ _ _ _ _ _ _) gd_X1_49 rfl (n := 3) (by decide) rfl (by decide) rfl rfl rfl (Nat.zero_le _) (fun q119_19 eq119_19 => ?_)
                show Rn K _ 0 0 _ 122 [(0, .ref (kB K + 15)), (3, vI x3), (4, .ref (kB K + 5)), (5, vI q5_2), (6, vI q15_4), (8, vI q69_10)] [] (Zw (kE K) lt q115_18.2 q119_19 ms rd m P)
                refine r_aload_n (pc := 122) X 0 dX1_boundNode_122 rfl rfl ?_
                refine r_get (pc := 123) (v := .ref (kB K + 18)) X 15 5 inX1 rfl rfl (by decide) tf_X1_18 rfl dX1_boundNode_123 ?_
                refine r_iload (pc := 126) X 5 dX1_boundNode_126 rfl ?_
                refine r_iald (pc := 128) (f := q119_19 5) X 18 h14 zl_3200 rfl dX1_boundNode_128 ?_
                exact r_iret (pc := 129) X rfl rfl (by decide) dX1_boundNode_129
            · refine r_iconst (pc := 87) X 0 dX1_boundNode_87 (by decide) ?_
              exact r_iret (pc := 88) X rfl rfl (by decide) dX1_boundNode_88
        refine r_ck1 (fun h20 => ?_)
        refine r_ifne (pc := 61) X h20 dX1_boundNode_61 (tgt := 68) (by decide) (fun h21 => ?_) (fun h21 => ?_)
        · refine r_iconst (pc := 68) X 0 dX1_boundNode_68 (by decide) ?_
          refine r_sub [0, 3, 4, 5, 6] rfl ?_
          exact hj69 0
        · refine r_iconst (pc := 64) X 1 dX1_boundNode_64 (by decide) ?_
          refine r_goto (pc := 65) X dX1_boundNode_65 (tgt := 69) (by decide) ?_
          refine r_sub [0, 3, 4, 5, 6] rfl ?_
          exact hj69 1
      · refine r_iload_n (pc := 55) X 1 dX1_boundNode_55 rfl rfl ?_
        exact r_iret (pc := 56) X rfl rfl (by decide) dX1_boundNode_56
    · refine r_aload_n (pc := 38) X 0 dX1_boundNode_38 rfl rfl ?_
      refine r_get (pc := 39) (v := vG (kB K) (c 0 0)) X 15 0 inX1 rfl rfl (by decide) tf_X1_21 rfl dX1_boundNode_39 ?_
      refine r_rf0 h1.1 ?_
      refine r_get (pc := 42) (v := vI ((gP P (c 0 0)).1)) X (62 + 2 * (c 0 0).toNat) 0 inX2 (zg_gobj h1) rfl (by decide) tf_X1_32 rfl dX1_boundNode_42 ?_
      refine r_iload_n (pc := 45) X 2 dX1_boundNode_45 rfl rfl ?_
      refine r_iadd (pc := 46) X dX1_boundNode_46 ?_
      exact r_iret (pc := 47) X rfl rfl (by decide) dX1_boundNode_47
  refine r_ck1 (fun h22 => ?_)
  refine r_ifeq (pc := 21) X h22 dX1_boundNode_21 (tgt := 28) (by decide) (fun h23 => ?_) (fun h23 => ?_)
  · refine r_iconst (pc := 28) X 3 dX1_boundNode_28 (by decide) ?_
    exact hj29 3
  · refine r_iconst (pc := 24) X 0 dX1_boundNode_24 (by decide) ?_
    refine r_goto (pc := 25) X dX1_boundNode_25 (tgt := 29) (by decide) ?_
    exact hj29 0
theorem c_X1_boundNode (N : Nat) (lt b c ms rd m : Bd) (P : PL) (x1 x2 x3 : Int) (l : Launch) (D : va_G) (E : ET) (a : Int × Bd × Bd) (ha : f_X1_boundNode b c P x1 x2 x3 = some a) : Ct l yX1_boundNode (Cond.code yX1_boundNode cX1_boundNode 9 (some .int) :: lw_g) ({ frames := 2, cells := 0, slots := 0, locals := 44 } : Room) D E [.ref (E.2.2.2 + 15), vI x1, vI x2, vI x3, .ref (E.2.2.2 + 5)] (Zw E lt b c ms rd m P) (Zw E lt a.2.1 a.2.2 ms rd m P) (some (vI a.1)) :=
  ct_of (av := fun E => [.ref (E.2.2.2 + 15), vI x1, vI x2, vI x3, .ref (E.2.2.2 + 5)]) (W0 := fun E => Zw E lt b c ms rd m P) (W1 := fun E (a : Int × Bd × Bd) => Zw E lt a.2.1 a.2.2 ms rd m P) (rw := fun E a => some (vI a.1)) (by decide) rfl (fun E => Zw_d E lt b c ms rd m P) (fun E => by simp [lg_sl, z_cat, z_catR, z_catI, z_catL]) (fun K X => r_lv (by simp [lv_args, z_cat, z_catR, z_catI, z_catL]) (t_X1_boundNode N lt b c ms rd m P x1 x2 x3 K X)) l D E a ha
abbrev Q_X1_boundOf (K : KT) (lt b c ms rd m : Bd) (P : PL) : (Int × Bd × Bd × PL) → State → Prop := Qm K ({ frames := 5, cells := 2, slots := 122, locals := 118 } : Room) (fun a : Int × Bd × Bd × PL => Zw (kE K) lt a.2.1 a.2.2.1 ms rd m a.2.2.2) (fun a => some (vG (kB K) a.1))
set_option maxRecDepth 100000 in
set_option maxHeartbeats 4000000 in
theorem t_X1_boundOf_L136 (N : Nat) (lt b c ms rd m : Bd) (P : PL) (P1 : PL) (x5 x6 x7 x8 x9 x10 x11 x12 : Int) (K : KT) (X : Kok K cX1_boundOf yX1_boundOf.cls lw_g ({ frames := 5, cells := 2, slots := 122, locals := 118 } : Room) (some (.object "LoopTypes$Graph")) 16) (k : Bd → Bd → Option (Int × Bd × Bd × PL)) (hk : ∀ (b1 : Bd) (c1 : Bd), Rn K (Q_X1_boundOf K lt b c ms rd m P) 0 0 (k b1 c1) 226 [(0, .ref (kB K + 15)), (4, .ref (kB K + 5)), (5, vI x5), (6, vI x6)] [] (Zw (kE K) lt b1 c1 ms rd m P1)) : ∀ (n : Nat) (x13 : Int) (b1 : Bd) (c1 : Bd), Rn K (Q_X1_boundOf K lt b c ms rd m P) 0 0 (f_X1_boundOf_L136 P1 x5 x6 x7 x8 x9 x10 x11 x12 k n x13 b1 c1) 136 [(0, .ref (kB K + 15)), (4, .ref (kB K + 5)), (5, vI x5), (6, vI x6), (7, vI x7), (8, vI x8), (9, vI x9), (10, vI x10), (11, vI x11), (12, vI x12), (13, vI x13)] [] (Zw (kE K) lt b1 c1 ms rd m P1) := by
  intro n
  induction n with
  | zero =>
    intro x13 b1 c1
    rw [f_X1_boundOf_L136]
    exact r_none
  | succ n ih =>
    intro x13 b1 c1
    rw [f_X1_boundOf_L136]
    refine r_iload (pc := 136) X 10 dX1_boundOf_136 rfl ?_
    refine r_iload (pc := 138) X 9 dX1_boundOf_138 rfl ?_
    refine r_ck1 (fun h18 => ?_)
    refine r_ck1 (fun h19 => ?_)
    refine r_icmp_ge (pc := 140) X h18 h19 dX1_boundOf_140 (tgt := 226) (by decide) (fun h20 => ?_) (fun h20 => ?_)
    · refine r_sub [0, 1, 2, 3] rfl ?_
      exact hk b1 c1
    · refine r_iload (pc := 143) X 7 dX1_boundOf_143 rfl ?_
      refine r_iload (pc := 145) X 8 dX1_boundOf_145 rfl ?_
      refine r_bipush (pc := 147) X 6 dX1_boundOf_147 (by decide) ?_
      refine r_jn (J := fun j162 => ∀ (s1_162 : Int), Rn K (Q_X1_boundOf K lt b c ms rd m P) 0 0 (j162 s1_162) 162 [(0, .ref (kB K + 15)), (4, .ref (kB K + 5)), (5, vI x5), (6, vI x6), (7, vI x7), (8, vI x8), (9, vI x9), (10, vI x10), (11, vI x11), (12, vI x12), (13, vI x13)] [vI s1_162, vI x10] (Zw (kE K) lt b1 c1 ms rd m P1)) ?_ (fun j162 hj162 => ?_)
      · intro s1_162
        refine r_jn (J := fun j170 => ∀ (s0_170 : Int), Rn K (Q_X1_boundOf K lt b c ms rd m P) 0 0 (j170 s0_170) 170 [(0, .ref (kB K + 15)), (4, .ref (kB K + 5)), (5, vI x5), (6, vI x6), (7, vI x7), (8, vI x8), (9, vI x9), (10, vI x10), (11, vI x11), (12, vI x12), (13, vI x13)] [vI s0_170] (Zw (kE K) lt b1 c1 ms rd m P1)) ?_ (fun j170 hj170 => ?_)
        · intro s0_170
          refine r_istore (pc := 170) (lv' := [(0, .ref (kB K + 15)), (4, .ref (kB K + 5)), (5, vI x5), (6, vI x6), (7, vI x7), (8, vI x8), (9, vI x9), (10, vI x10), (11, vI x11), (12, vI x12), (13, vI x13), (14, vI s0_170)]) X [1, 2, 3, 4, 5, 6, 7, 8, 9, 10, 11, 0] dX1_boundOf_170 (by decide) rfl ?_
          refine r_aload_n (pc := 172) X 0 dX1_boundOf_172 rfl rfl ?_
          refine r_aload_n (pc := 173) X 0 dX1_boundOf_173 rfl rfl ?_
          refine r_get (pc := 174) (v := vG (kB K) (c1 0 0)) X 15 0 inX1 rfl rfl (by decide) tf_X1_21 rfl dX1_boundOf_174 ?_
          refine r_iload (pc := 177) X 5 dX1_boundOf_177 rfl ?_
          refine r_iload (pc := 179) X 10 dX1_boundOf_179 rfl ?_
          refine r_ckG (fun h21 => ?_)
          refine r_rf2 h21.1 ?_
          refine r_callV (pc := 181) (q0 := (62 + 2 * (c1 0 0).toNat)) (ci := 2) (As := [vI x8, vI x13]) (rest := [.ref (kB K + 15)]) (W' := fun q181_22 => (Zw (kE K) lt b1 c1 ms rd m P1)) (rv := fun q181_22 => some (vI q181_22)) X dX1_boundOf_181 rfl (fun a ha => c_X2_partAt N lt b1 c1 ms rd m P1 (c1 0 0) h21 x8 x13 K.1.2.1 K.2.2.1.1 (kE K) a ha) (fun a => Zw_d _ _ _ _ _ _ _ _) gd_X1_78 rfl (n := 2) (by decide) rfl (by decide) rfl rfl (zg_gobj h21) (by simp [z_cat, z_catR, z_catI, z_catL]) (fun q181_22 eq181_22 => ?_)
          show Rn K _ 0 0 _ 184 [(0, .ref (kB K + 15)), (4, .ref (kB K + 5)), (5, vI x5), (6, vI x6), (7, vI x7), (8, vI x8), (9, vI x9), (10, vI x10), (11, vI x11), (12, vI x12), (13, vI x13), (14, vI s0_170)] [vI q181_22, .ref (kB K + 15)] (Zw (kE K) lt b1 c1 ms rd m P1)
          refine r_aload_n (pc := 184) X 0 dX1_boundOf_184 rfl rfl ?_
          refine r_get (pc := 185) (v := vG (kB K) (c1 1 0)) X 15 1 inX1 rfl rfl (by decide) tf_X1_25 rfl dX1_boundOf_185 ?_
          refine r_iload (pc := 188) X 6 dX1_boundOf_188 rfl ?_
          refine r_iload (pc := 190) X 10 dX1_boundOf_190 rfl ?_
          refine r_ckG (fun h23 => ?_)
          refine r_rf2 h23.1 ?_
          refine r_callV (pc := 192) (q0 := (62 + 2 * (c1 1 0).toNat)) (ci := 2) (As := [vI x9, vI x13]) (rest := [vI q181_22, .ref (kB K + 15)]) (W' := fun q192_24 => (Zw (kE K) lt b1 c1 ms rd m P1)) (rv := fun q192_24 => some (vI q192_24)) X dX1_boundOf_192 rfl (fun a ha => c_X2_partAt N lt b1 c1 ms rd m P1 (c1 1 0) h23 x9 x13 K.1.2.1 K.2.2.1.1 (kE K) a ha) (fun a => Zw_d _ _ _ _ _ _ _ _) gd_X1_78 rfl (n := 2) (by decide) rfl (by decide) rfl rfl (zg_gobj h23) (by simp [z_cat, z_catR, z_catI, z_catL]) (fun q192_24 eq192_24 => ?_)
          show Rn K _ 0 0 _ 195 [(0, .ref (kB K + 15)), (4, .ref (kB K + 5)), (5, vI x5), (6, vI x6), (7, vI x7), (8, vI x8), (9, vI x9), (10, vI x10), (11, vI x11), (12, vI x12), (13, vI x13), (14, vI s0_170)] [vI q192_24, vI q181_22, .ref (kB K + 15)] (Zw (kE K) lt b1 c1 ms rd m P1)
          refine r_iload (pc := 195) X 11 dX1_boundOf_195 rfl ?_
          refine r_aload (pc := 197) X 1 dX1_boundOf_197 rfl ?_
          refine r_callV (pc := 199) (q0 := 15) (ci := 1) (As := [vI q181_22, vI q192_24, vI s0_170, .ref (kB K + 5)]) (rest := []) (W' := fun q199_25 => (Zw (kE K) lt q199_25.2.1 q199_25.2.2 ms rd m P1)) (rv := fun q199_25 => some (vI q199_25.1)) X dX1_boundOf_199 rfl (fun a ha => c_X1_boundNode N lt b1 c1 ms rd m P1 q181_22 q192_24 s0_170 K.1.2.1 K.2.2.1.1 (kE K) a ha) (fun a => Zw_d _ _ _ _ _ _ _ _) gd_X1_90 rfl (n := 4) (by decide) rfl (by decide) rfl rfl rfl (Nat.zero_le _) (fun q199_25 eq199_25 => ?_)
          show Rn K _ 0 0 _ 202 [(0, .ref (kB K + 15)), (4, .ref (kB K + 5)), (5, vI x5), (6, vI x6), (7, vI x7), (8, vI x8), (9, vI x9), (10, vI x10), (11, vI x11), (12, vI x12), (13, vI x13), (14, vI s0_170)] [vI q199_25.1] (Zw (kE K) lt q199_25.2.1 q199_25.2.2 ms rd m P1)
          refine r_istore (pc := 202) (lv' := [(0, .ref (kB K + 15)), (4, .ref (kB K + 5)), (5, vI x5), (6, vI x6), (7, vI x7), (8, vI x8), (9, vI x9), (10, vI x10), (11, vI x11), (12, vI x12), (13, vI x13), (14, vI s0_170), (15, vI q199_25.1)]) X [1, 2, 3, 4, 5, 6, 7, 8, 9, 10, 11, 12, 0] dX1_boundOf_202 (by decide) rfl ?_
          refine r_aload (pc := 204) X 1 dX1_boundOf_204 rfl ?_
          refine r_aload_n (pc := 206) X 0 dX1_boundOf_206 rfl rfl ?_
          refine r_get (pc := 207) (v := .ref (kB K + 18)) X 15 5 inX1 rfl rfl (by decide) tf_X1_18 rfl dX1_boundOf_207 ?_
          refine r_iload (pc := 210) X 4 dX1_boundOf_210 rfl ?_
          refine r_ckA (fun h26 => ?_)
          refine r_iald (pc := 212) (f := q199_25.2.2 5) X 18 h26 zl_3200 rfl dX1_boundOf_212 ?_
          refine r_iload (pc := 213) X 10 dX1_boundOf_213 rfl ?_
          refine r_iload (pc := 215) X 12 dX1_boundOf_215 rfl ?_
          refine r_callV (pc := 217) (q0 := 5) (ci := 0) (As := [vI (q199_25.2.2 5 x7), vI x13, vI q199_25.1]) (rest := []) (W' := fun q217_27 => (Zw (kE K) lt q217_27 q199_25.2.2 ms rd m P1)) (rv := fun q217_27 => none) X dX1_boundOf_217 rfl (fun a ha => c_X0_link N lt q199_25.2.1 q199_25.2.2 ms rd m P1 (q199_25.2.2 5 x7) x13 q199_25.1 K.1.2.1 K.2.2.1.1 (kE K) a ha) (fun a => Zw_d _ _ _ _ _ _ _ _) gd_X1_97 rfl (n := 3) (by decide) rfl (by decide) rfl rfl rfl (Nat.zero_le _) (fun q217_27 eq217_27 => ?_)
          show Rn K _ 0 0 _ 220 [(0, .ref (kB K + 15)), (4, .ref (kB K + 5)), (5, vI x5), (6, vI x6), (7, vI x7), (8, vI x8), (9, vI x9), (10, vI x10), (11, vI x11), (12, vI x12), (13, vI x13), (14, vI s0_170), (15, vI q199_25.1)] [] (Zw (kE K) lt q217_27 q199_25.2.2 ms rd m P1)
          refine r_iinc (pc := 220) (lv' := [(0, .ref (kB K + 15)), (4, .ref (kB K + 5)), (5, vI x5), (6, vI x6), (7, vI x7), (8, vI x8), (9, vI x9), (10, vI x10), (11, vI x11), (12, vI x12), (13, vI (x13 + 1)), (14, vI s0_170), (15, vI q199_25.1)]) X 10 [1, 2, 3, 4, 5, 6, 7, 8, 9, 10, 0, 11, 12] dX1_boundOf_220 rfl (by decide) rfl ?_
          refine r_goto (pc := 223) X dX1_boundOf_223 (tgt := 136) (by decide) ?_
          refine r_sub [0, 1, 2, 3, 4, 5, 6, 7, 8, 9, 10] rfl ?_
          exact ih (x13 + 1) q217_27 q199_25.2.2
        refine r_ck1 (fun h28 => ?_)
        refine r_ck1 (fun h29 => ?_)
        refine r_icmp_eq (pc := 162) X h28 h29 dX1_boundOf_162 (tgt := 169) (by decide) (fun h30 => ?_) (fun h30 => ?_)
        · refine r_iconst (pc := 169) X 0 dX1_boundOf_169 (by decide) ?_
          exact hj170 0
        · refine r_iconst (pc := 165) X 1 dX1_boundOf_165 (by decide) ?_
          refine r_goto (pc := 166) X dX1_boundOf_166 (tgt := 170) (by decide) ?_
          exact hj170 1
      refine r_jn (J := fun j161 => Rn K (Q_X1_boundOf K lt b c ms rd m P) 0 0 j161 161 [(0, .ref (kB K + 15)), (4, .ref (kB K + 5)), (5, vI x5), (6, vI x6), (7, vI x7), (8, vI x8), (9, vI x9), (10, vI x10), (11, vI x11), (12, vI x12), (13, vI x13)] [vI x10] (Zw (kE K) lt b1 c1 ms rd m P1)) ?_ (fun j161 hj161 => ?_)
      · skip
        refine r_iconst (pc := 161) X 0 dX1_boundOf_161 (by decide) ?_
        exact hj162 0
      refine r_ck1 (fun h31 => ?_)
      refine r_icmp_ne (pc := 149) X h31 (by decide) dX1_boundOf_149 (tgt := 161) (by decide) (fun h32 => ?_) (fun h32 => ?_)
      · exact hj161
      · refine r_iload (pc := 152) X 10 dX1_boundOf_152 rfl ?_
        refine r_ifne (pc := 154) X h18 dX1_boundOf_154 (tgt := 161) (by decide) (fun h33 => ?_) (fun h33 => ?_)
        · exact hj161
        · refine r_iconst (pc := 157) X 1 dX1_boundOf_157 (by decide) ?_
          refine r_goto (pc := 158) X dX1_boundOf_158 (tgt := 162) (by decide) ?_
          exact hj162 1
set_option maxRecDepth 100000 in
set_option maxHeartbeats 4000000 in
theorem t_X1_boundOf_L39 (N : Nat) (lt b c ms rd m : Bd) (P : PL) (P1 : PL) (x5 : Int) (K : KT) (X : Kok K cX1_boundOf yX1_boundOf.cls lw_g ({ frames := 5, cells := 2, slots := 122, locals := 118 } : Room) (some (.object "LoopTypes$Graph")) 16) (k : Bd → Bd → Option (Int × Bd × Bd × PL)) (hk : ∀ (b1 : Bd) (c1 : Bd), Rn K (Q_X1_boundOf K lt b c ms rd m P) 0 0 (k b1 c1) 232 [(4, .ref (kB K + 5)), (5, vI x5)] [] (Zw (kE K) lt b1 c1 ms rd m P1)) : ∀ (n : Nat) (x6 : Int) (b1 : Bd) (c1 : Bd), Rn K (Q_X1_boundOf K lt b c ms rd m P) 0 0 (f_X1_boundOf_L39 N P1 x5 k n x6 b1 c1) 39 [(0, .ref (kB K + 15)), (4, .ref (kB K + 5)), (5, vI x5), (6, vI x6)] [] (Zw (kE K) lt b1 c1 ms rd m P1) := by
  intro n
  induction n with
  | zero =>
    intro x6 b1 c1
    rw [f_X1_boundOf_L39]
    exact r_none
  | succ n ih =>
    intro x6 b1 c1
    rw [f_X1_boundOf_L39]
    refine r_iload (pc := 39) X 3 dX1_boundOf_39 rfl ?_
    refine r_aload_n (pc := 41) X 0 dX1_boundOf_41 rfl rfl ?_
    refine r_get (pc := 42) (v := vI (c1 3 0)) X 15 3 inX1 rfl rfl (by decide) tf_X1_28 rfl dX1_boundOf_42 ?_
    refine r_ck1 (fun h6 => ?_)
    refine r_ck1 (fun h7 => ?_)
    refine r_icmp_ge (pc := 45) X h6 h7 dX1_boundOf_45 (tgt := 232) (by decide) (fun h8 => ?_) (fun h8 => ?_)
    · refine r_sub [1, 2] rfl ?_
      exact hk b1 c1
    · refine r_iload (pc := 48) X 3 dX1_boundOf_48 rfl ?_
      refine r_sipush (pc := 50) X 3200 dX1_boundOf_50 (by decide) ?_
      refine r_icmp_ge (pc := 53) X h6 (by decide) dX1_boundOf_53 (tgt := 232) (by decide) (fun h9 => ?_) (fun h9 => ?_)
      · refine r_sub [1, 2] rfl ?_
        exact hk b1 c1
      · refine r_aload_n (pc := 56) X 0 dX1_boundOf_56 rfl rfl ?_
        refine r_get (pc := 57) (v := .ref (kB K + 16)) X 15 2 inX1 rfl rfl (by decide) tf_X1_9 rfl dX1_boundOf_57 ?_
        refine r_iload (pc := 60) X 3 dX1_boundOf_60 rfl ?_
        refine r_ckA (fun h10 => ?_)
        refine r_iald (pc := 62) (f := c1 2) X 16 h10 zl_3200 rfl dX1_boundOf_62 ?_
        refine r_istore (pc := 63) (lv' := [(0, .ref (kB K + 15)), (4, .ref (kB K + 5)), (5, vI x5), (6, vI x6), (7, vI (c1 2 x6))]) X [1, 2, 3, 4, 0] dX1_boundOf_63 (by decide) rfl ?_
        refine r_aload_n (pc := 65) X 0 dX1_boundOf_65 rfl rfl ?_
        refine r_iload (pc := 66) X 4 dX1_boundOf_66 rfl ?_
        refine r_callV (pc := 68) (q0 := 15) (ci := 1) (As := [vI (c1 2 x6)]) (rest := []) (W' := fun q68_11 => (Zw (kE K) lt b1 c1 ms rd m P1)) (rv := fun q68_11 => some (vI q68_11)) X dX1_boundOf_68 rfl (fun a ha => c_X1_leftOf N lt b1 c1 ms rd m P1 (c1 2 x6) K.1.2.1 K.2.2.1.1 (kE K) a ha) (fun a => Zw_d _ _ _ _ _ _ _ _) gd_X1_57 rfl (n := 1) (by decide) rfl (by decide) rfl rfl rfl (Nat.zero_le _) (fun q68_11 eq68_11 => ?_)
        show Rn K _ 0 0 _ 71 [(0, .ref (kB K + 15)), (4, .ref (kB K + 5)), (5, vI x5), (6, vI x6), (7, vI (c1 2 x6))] [vI q68_11] (Zw (kE K) lt b1 c1 ms rd m P1)
        refine r_istore (pc := 71) (lv' := [(0, .ref (kB K + 15)), (4, .ref (kB K + 5)), (5, vI x5), (6, vI x6), (7, vI (c1 2 x6)), (8, vI q68_11)]) X [1, 2, 3, 4, 5, 0] dX1_boundOf_71 (by decide) rfl ?_
        refine r_aload_n (pc := 73) X 0 dX1_boundOf_73 rfl rfl ?_
        refine r_iload (pc := 74) X 4 dX1_boundOf_74 rfl ?_
        refine r_callV (pc := 76) (q0 := 15) (ci := 1) (As := [vI (c1 2 x6)]) (rest := []) (W' := fun q76_12 => (Zw (kE K) lt b1 c1 ms rd m P1)) (rv := fun q76_12 => some (vI q76_12)) X dX1_boundOf_76 rfl (fun a ha => c_X1_rightOf N lt b1 c1 ms rd m P1 (c1 2 x6) K.1.2.1 K.2.2.1.1 (kE K) a ha) (fun a => Zw_d _ _ _ _ _ _ _ _) gd_X1_64 rfl (n := 1) (by decide) rfl (by decide) rfl rfl rfl (Nat.zero_le _) (fun q76_12 eq76_12 => ?_)
        show Rn K _ 0 0 _ 79 [(0, .ref (kB K + 15)), (4, .ref (kB K + 5)), (5, vI x5), (6, vI x6), (7, vI (c1 2 x6)), (8, vI q68_11)] [vI q76_12] (Zw (kE K) lt b1 c1 ms rd m P1)
        refine r_istore (pc := 79) (lv' := [(0, .ref (kB K + 15)), (4, .ref (kB K + 5)), (5, vI x5), (6, vI x6), (7, vI (c1 2 x6)), (8, vI q68_11), (9, vI q76_12)]) X [1, 2, 3, 4, 5, 6, 0] dX1_boundOf_79 (by decide) rfl ?_
        refine r_aload_n (pc := 81) X 0 dX1_boundOf_81 rfl rfl ?_
        refine r_iload (pc := 82) X 4 dX1_boundOf_82 rfl ?_
        refine r_callV (pc := 84) (q0 := 15) (ci := 1) (As := [vI (c1 2 x6)]) (rest := []) (W' := fun q84_13 => (Zw (kE K) lt b1 c1 ms rd m P1)) (rv := fun q84_13 => some (vI q84_13)) X dX1_boundOf_84 rfl (fun a ha => c_X1_isAbout N lt b1 c1 ms rd m P1 (c1 2 x6) K.1.2.1 K.2.2.1.1 (kE K) a ha) (fun a => Zw_d _ _ _ _ _ _ _ _) gd_X1_53 rfl (n := 1) (by decide) rfl (by decide) rfl rfl rfl (Nat.zero_le _) (fun q84_13 eq84_13 => ?_)
        show Rn K _ 0 0 _ 87 [(0, .ref (kB K + 15)), (4, .ref (kB K + 5)), (5, vI x5), (6, vI x6), (7, vI (c1 2 x6)), (8, vI q68_11), (9, vI q76_12)] [vI q84_13] (Zw (kE K) lt b1 c1 ms rd m P1)
        refine r_jn (J := fun j95 => ∀ (s0_95 : Int), Rn K (Q_X1_boundOf K lt b c ms rd m P) 0 0 (j95 s0_95) 95 [(0, .ref (kB K + 15)), (4, .ref (kB K + 5)), (5, vI x5), (6, vI x6), (7, vI (c1 2 x6)), (8, vI q68_11), (9, vI q76_12)] [vI s0_95] (Zw (kE K) lt b1 c1 ms rd m P1)) ?_ (fun j95 hj95 => ?_)
        · intro s0_95
          refine r_istore (pc := 95) (lv' := [(0, .ref (kB K + 15)), (4, .ref (kB K + 5)), (5, vI x5), (6, vI x6), (7, vI (c1 2 x6)), (8, vI q68_11), (9, vI q76_12), (10, vI s0_95)]) X [1, 2, 3, 4, 5, 6, 7, 0] dX1_boundOf_95 (by decide) rfl ?_
          refine r_aload_n (pc := 97) X 0 dX1_boundOf_97 rfl rfl ?_
          refine r_get (pc := 98) (v := vG (kB K) (c1 0 0)) X 15 0 inX1 rfl rfl (by decide) tf_X1_21 rfl dX1_boundOf_98 ?_
          refine r_iload (pc := 101) X 5 dX1_boundOf_101 rfl ?_
          refine r_ckG (fun h14 => ?_)
          refine r_rf1 h14.1 ?_
          refine r_callV (pc := 103) (q0 := (62 + 2 * (c1 0 0).toNat)) (ci := 2) (As := [vI q68_11]) (rest := []) (W' := fun q103_15 => (Zw (kE K) lt b1 c1 ms rd m P1)) (rv := fun q103_15 => some (vI q103_15)) X dX1_boundOf_103 rfl (fun a ha => c_X2_headAt N lt b1 c1 ms rd m P1 (c1 0 0) h14 q68_11 K.1.2.1 K.2.2.1.1 (kE K) a ha) (fun a => Zw_d _ _ _ _ _ _ _ _) gd_X1_61 rfl (n := 1) (by decide) rfl (by decide) rfl rfl (zg_gobj h14) (Nat.zero_le _) (fun q103_15 eq103_15 => ?_)
          show Rn K _ 0 0 _ 106 [(0, .ref (kB K + 15)), (4, .ref (kB K + 5)), (5, vI x5), (6, vI x6), (7, vI (c1 2 x6)), (8, vI q68_11), (9, vI q76_12), (10, vI s0_95)] [vI q103_15] (Zw (kE K) lt b1 c1 ms rd m P1)
          refine r_istore (pc := 106) (lv' := [(0, .ref (kB K + 15)), (4, .ref (kB K + 5)), (5, vI x5), (6, vI x6), (7, vI (c1 2 x6)), (8, vI q68_11), (9, vI q76_12), (10, vI s0_95), (11, vI q103_15)]) X [1, 2, 3, 4, 5, 6, 7, 8, 0] dX1_boundOf_106 (by decide) rfl ?_
          refine r_iload (pc := 108) X 8 dX1_boundOf_108 rfl ?_
          refine r_aload_n (pc := 110) X 0 dX1_boundOf_110 rfl rfl ?_
          refine r_get (pc := 111) (v := vG (kB K) (c1 1 0)) X 15 1 inX1 rfl rfl (by decide) tf_X1_25 rfl dX1_boundOf_111 ?_
          refine r_iload (pc := 114) X 6 dX1_boundOf_114 rfl ?_
          refine r_ckG (fun h16 => ?_)
          refine r_rf1 h16.1 ?_
          refine r_callV (pc := 116) (q0 := (62 + 2 * (c1 1 0).toNat)) (ci := 2) (As := [vI q76_12]) (rest := [vI q103_15]) (W' := fun q116_17 => (Zw (kE K) lt b1 c1 ms rd m P1)) (rv := fun q116_17 => some (vI q116_17)) X dX1_boundOf_116 rfl (fun a ha => c_X2_headAt N lt b1 c1 ms rd m P1 (c1 1 0) h16 q76_12 K.1.2.1 K.2.2.1.1 (kE K) a ha) (fun a => Zw_d _ _ _ _ _ _ _ _) gd_X1_61 rfl (n := 1) (by decide) rfl (by decide) rfl rfl (zg_gobj h16) (by simp [z_cat, z_catR, z_catI, z_catL]) (fun q116_17 eq116_17 => ?_)
          show Rn K _ 0 0 _ 119 [(0, .ref (kB K + 15)), (4, .ref (kB K + 5)), (5, vI x5), (6, vI x6), (7, vI (c1 2 x6)), (8, vI q68_11), (9, vI q76_12), (10, vI s0_95), (11, vI q103_15)] [vI q116_17, vI q103_15] (Zw (kE K) lt b1 c1 ms rd m P1)
          refine r_jn (J := fun j131 => ∀ (s0_131 : Int), Rn K (Q_X1_boundOf K lt b c ms rd m P) 0 0 (j131 s0_131) 131 [(0, .ref (kB K + 15)), (4, .ref (kB K + 5)), (5, vI x5), (6, vI x6), (7, vI (c1 2 x6)), (8, vI q68_11), (9, vI q76_12), (10, vI s0_95), (11, vI q103_15)] [vI s0_131] (Zw (kE K) lt b1 c1 ms rd m P1)) ?_ (fun j131 hj131 => ?_)
          · intro s0_131
            refine r_istore (pc := 131) (lv' := [(0, .ref (kB K + 15)), (4, .ref (kB K + 5)), (5, vI x5), (6, vI x6), (7, vI (c1 2 x6)), (8, vI q68_11), (9, vI q76_12), (10, vI s0_95), (11, vI q103_15), (12, vI s0_131)]) X [1, 2, 3, 4, 5, 6, 7, 8, 9, 0] dX1_boundOf_131 (by decide) rfl ?_
            refine r_iconst (pc := 133) X 0 dX1_boundOf_133 (by decide) ?_
            refine r_istore (pc := 134) (lv' := [(0, .ref (kB K + 15)), (4, .ref (kB K + 5)), (5, vI x5), (6, vI x6), (7, vI (c1 2 x6)), (8, vI q68_11), (9, vI q76_12), (10, vI s0_95), (11, vI q103_15), (12, vI s0_131), (13, vI 0)]) X [1, 2, 3, 4, 5, 6, 7, 8, 9, 10, 0] dX1_boundOf_134 (by decide) rfl ?_
            refine t_X1_boundOf_L136 N lt b c ms rd m P P1 x5 x6 (c1 2 x6) q68_11 q76_12 s0_95 q103_15 s0_131 K X _ ?_ N 0 b1 c1
            intro b_136 c_136
            refine r_iinc (pc := 226) (lv' := [(0, .ref (kB K + 15)), (4, .ref (kB K + 5)), (5, vI x5), (6, vI (x6 + 1))]) X 3 [1, 2, 3, 0] dX1_boundOf_226 rfl (by decide) rfl ?_
            refine r_goto (pc := 229) X dX1_boundOf_229 (tgt := 39) (by decide) ?_
            exact ih (x6 + 1) b_136 c_136
          refine r_ck1 (fun h34 => ?_)
          refine r_ck1 (fun h35 => ?_)
          refine r_icmp_ne (pc := 119) X h34 h35 dX1_boundOf_119 (tgt := 130) (by decide) (fun h36 => ?_) (fun h36 => ?_)
          · refine r_iconst (pc := 130) X 0 dX1_boundOf_130 (by decide) ?_
            exact hj131 0
          · refine r_iload (pc := 122) X 8 dX1_boundOf_122 rfl ?_
            refine r_callN (pc := 124) (As := [vI q103_15]) (rest := []) (W' := fun q124_37 => (Zw (kE K) lt b1 c1 ms rd m P1)) (rv := fun q124_37 => some (vI q124_37)) X dX1_boundOf_124 rfl (fun a ha => c_X5_partsOf N lt b1 c1 ms rd m P1 q103_15 K.1.2.1 K.2.2.1.1 (kE K) a ha) (fun a => Zw_d _ _ _ _ _ _ _ _) (gd_c tc_X5_partsOf) (by decide) tt_X5_partsOf tn_RX5 rfl (n := 1) (by decide) rfl (by decide) (Nat.zero_le _) (fun q124_37 eq124_37 => ?_)
            show Rn K _ 0 0 _ 127 [(0, .ref (kB K + 15)), (4, .ref (kB K + 5)), (5, vI x5), (6, vI x6), (7, vI (c1 2 x6)), (8, vI q68_11), (9, vI q76_12), (10, vI s0_95), (11, vI q103_15)] [vI q124_37] (Zw (kE K) lt b1 c1 ms rd m P1)
            refine r_goto (pc := 127) X dX1_boundOf_127 (tgt := 131) (by decide) ?_
            exact hj131 q124_37
        refine r_ck1 (fun h38 => ?_)
        refine r_ifne (pc := 87) X h38 dX1_boundOf_87 (tgt := 94) (by decide) (fun h39 => ?_) (fun h39 => ?_)
        · refine r_iconst (pc := 94) X 0 dX1_boundOf_94 (by decide) ?_
          exact hj95 0
        · refine r_iconst (pc := 90) X 1 dX1_boundOf_90 (by decide) ?_
          refine r_goto (pc := 91) X dX1_boundOf_91 (tgt := 95) (by decide) ?_
          exact hj95 1
set_option maxRecDepth 100000 in
set_option maxHeartbeats 4000000 in
theorem t_X1_boundOf (N : Nat) (lt b c ms rd m : Bd) (P : PL) (x1 x2 x3 : Int) (K : KT) (X : Kok K cX1_boundOf yX1_boundOf.cls lw_g ({ frames := 5, cells := 2, slots := 122, locals := 118 } : Room) (some (.object "LoopTypes$Graph")) 16) : Rn K (Q_X1_boundOf K lt b c ms rd m P) 0 0 (f_X1_boundOf N b c P x1 x2 x3) 0 [(0, .ref (kB K + 15)), (1, vG (kB K) x1), (2, vG (kB K) x2), (3, vI x3), (4, .ref (kB K + 5))] [] (Zw (kE K) lt b c ms rd m P) := by
  unfold f_X1_boundOf
  refine r_aload_n (pc := 0) X 0 dX1_boundOf_0 rfl rfl ?_
  refine r_gload_n (pc := 1) X 1 dX1_boundOf_1 rfl rfl ?_
  refine r_gload_n (pc := 2) X 2 dX1_boundOf_2 rfl rfl ?_
  refine r_callV (pc := 3) (q0 := 15) (ci := 1) (As := [vG (kB K) x1, vG (kB K) x2]) (rest := []) (W' := fun q3_1 => (Zw (kE K) lt b q3_1 ms rd m P)) (rv := fun q3_1 => none) X dX1_boundOf_3 rfl (fun a ha => c_X1_start N lt b c ms rd m P x1 x2 K.1.2.1 K.2.2.1.1 (kE K) a ha) (fun a => Zw_d _ _ _ _ _ _ _ _) gd_X1_41 rfl (n := 2) (by decide) rfl (by decide) rfl rfl rfl (Nat.zero_le _) (fun q3_1 eq3_1 => ?_)
  show Rn K _ 0 0 _ 6 [(0, .ref (kB K + 15)), (1, vG (kB K) x1), (2, vG (kB K) x2), (3, vI x3), (4, .ref (kB K + 5))] [] (Zw (kE K) lt b q3_1 ms rd m P)
  refine r_aload (pc := 6) X 4 dX1_boundOf_6 rfl ?_
  refine r_callV (pc := 8) (q0 := 5) (ci := 0) (As := []) (rest := []) (W' := fun q8_2 => (Zw (kE K) lt q8_2 q3_1 ms rd m P)) (rv := fun q8_2 => none) X dX1_boundOf_8 rfl (fun a ha => c_X0_start N lt b q3_1 ms rd m P K.1.2.1 K.2.2.1.1 (kE K) a ha) (fun a => Zw_d _ _ _ _ _ _ _ _) gd_X1_82 rfl (n := 0) (by decide) rfl (by decide) rfl rfl rfl (Nat.zero_le _) (fun q8_2 eq8_2 => ?_)
  show Rn K _ 0 0 _ 11 [(0, .ref (kB K + 15)), (1, vG (kB K) x1), (2, vG (kB K) x2), (3, vI x3), (4, .ref (kB K + 5))] [] (Zw (kE K) lt q8_2 q3_1 ms rd m P)
  refine r_aload (pc := 11) X 4 dX1_boundOf_11 rfl ?_
  refine r_gload_n (pc := 13) X 1 dX1_boundOf_13 rfl rfl ?_
  refine r_callV (pc := 14) (q0 := 5) (ci := 0) (As := [vG (kB K) x1]) (rest := []) (W' := fun q14_3 => (Zw (kE K) lt q14_3.2 q3_1 ms rd m P)) (rv := fun q14_3 => some (vI q14_3.1)) X dX1_boundOf_14 rfl (fun a ha => c_X0_putAll N lt q8_2 q3_1 ms rd m P x1 K.1.2.1 K.2.2.1.1 (kE K) a ha) (fun a => Zw_d _ _ _ _ _ _ _ _) gd_X1_86 rfl (n := 1) (by decide) rfl (by decide) rfl rfl rfl (Nat.zero_le _) (fun q14_3 eq14_3 => ?_)
  show Rn K _ 0 0 _ 17 [(0, .ref (kB K + 15)), (1, vG (kB K) x1), (2, vG (kB K) x2), (3, vI x3), (4, .ref (kB K + 5))] [vI q14_3.1] (Zw (kE K) lt q14_3.2 q3_1 ms rd m P)
  refine r_pop (pc := 17) X dX1_boundOf_17 rfl ?_
  refine r_aload (pc := 18) X 4 dX1_boundOf_18 rfl ?_
  refine r_gload_n (pc := 20) X 2 dX1_boundOf_20 rfl rfl ?_
  refine r_callV (pc := 21) (q0 := 5) (ci := 0) (As := [vG (kB K) x2]) (rest := []) (W' := fun q21_4 => (Zw (kE K) lt q21_4.2 q3_1 ms rd m P)) (rv := fun q21_4 => some (vI q21_4.1)) X dX1_boundOf_21 rfl (fun a ha => c_X0_putAll N lt q14_3.2 q3_1 ms rd m P x2 K.1.2.1 K.2.2.1.1 (kE K) a ha) (fun a => Zw_d _ _ _ _ _ _ _ _) gd_X1_86 rfl (n := 1) (by decide) rfl (by decide) rfl rfl rfl (Nat.zero_le _) (fun q21_4 eq21_4 => ?_)
  show Rn K _ 0 0 _ 24 [(0, .ref (kB K + 15)), (1, vG (kB K) x1), (2, vG (kB K) x2), (3, vI x3), (4, .ref (kB K + 5))] [vI q21_4.1] (Zw (kE K) lt q21_4.2 q3_1 ms rd m P)
  refine r_pop (pc := 24) X dX1_boundOf_24 rfl ?_
  refine r_aload_n (pc := 25) X 0 dX1_boundOf_25 rfl rfl ?_
  refine r_iconst (pc := 26) X 0 dX1_boundOf_26 (by decide) ?_
  refine r_iconst (pc := 27) X 0 dX1_boundOf_27 (by decide) ?_
  refine r_iload_n (pc := 28) X 3 dX1_boundOf_28 rfl rfl ?_
  refine r_aload (pc := 29) X 4 dX1_boundOf_29 rfl ?_
  refine r_callV (pc := 31) (q0 := 15) (ci := 1) (As := [vI 0, vI 0, vI x3, .ref (kB K + 5)]) (rest := []) (W' := fun q31_5 => (Zw (kE K) lt q31_5.2.1 q31_5.2.2 ms rd m P)) (rv := fun q31_5 => some (vI q31_5.1)) X dX1_boundOf_31 rfl (fun a ha => c_X1_boundNode N lt q21_4.2 q3_1 ms rd m P 0 0 x3 K.1.2.1 K.2.2.1.1 (kE K) a ha) (fun a => Zw_d _ _ _ _ _ _ _ _) gd_X1_90 rfl (n := 4) (by decide) rfl (by decide) rfl rfl rfl (Nat.zero_le _) (fun q31_5 eq31_5 => ?_)
  show Rn K _ 0 0 _ 34 [(0, .ref (kB K + 15)), (1, vG (kB K) x1), (2, vG (kB K) x2), (3, vI x3), (4, .ref (kB K + 5))] [vI q31_5.1] (Zw (kE K) lt q31_5.2.1 q31_5.2.2 ms rd m P)
  refine r_istore (pc := 34) (lv' := [(0, .ref (kB K + 15)), (1, vG (kB K) x1), (2, vG (kB K) x2), (3, vI x3), (4, .ref (kB K + 5)), (5, vI q31_5.1)]) X [1, 2, 3, 4, 5, 0] dX1_boundOf_34 (by decide) rfl ?_
  refine r_iconst (pc := 36) X 0 dX1_boundOf_36 (by decide) ?_
  refine r_istore (pc := 37) (lv' := [(0, .ref (kB K + 15)), (1, vG (kB K) x1), (2, vG (kB K) x2), (3, vI x3), (4, .ref (kB K + 5)), (5, vI q31_5.1), (6, vI 0)]) X [1, 2, 3, 4, 5, 6, 0] dX1_boundOf_37 (by decide) rfl ?_
  refine r_sub [0, 4, 5, 6] rfl ?_
  refine t_X1_boundOf_L39 N lt b c ms rd m P P q31_5.1 K X _ ?_ N 0 q31_5.2.1 q31_5.2.2
  intro b_39 c_39
  refine r_aload (pc := 232) X 0 dX1_boundOf_232 rfl ?_
  refine r_iload (pc := 234) X 1 dX1_boundOf_234 rfl ?_
  refine r_callV (pc := 236) (q0 := 5) (ci := 0) (As := [vI q31_5.1]) (rest := []) (W' := fun q236_40 => (Zw (kE K) lt q236_40.2.1 c_39 ms rd m q236_40.2.2)) (rv := fun q236_40 => some (vG (kB K) q236_40.1)) X dX1_boundOf_236 rfl (fun a ha => c_X0_smallest N lt b_39 c_39 ms rd m P q31_5.1 K.1.2.1 K.2.2.1.1 (kE K) a ha) (fun a => Zw_d _ _ _ _ _ _ _ _) gd_X1_100 rfl (n := 1) (by decide) rfl (by decide) rfl rfl rfl (Nat.zero_le _) (fun q236_40 eq236_40 => ?_)
  show Rn K _ 2 122 _ 239 [(4, .ref (kB K + 5)), (5, vI q31_5.1)] [vG (kB K) q236_40.1] (Zw (kE K) lt q236_40.2.1 c_39 ms rd m q236_40.2.2)
  exact r_gret (pc := 239) X rfl rfl (by decide) dX1_boundOf_239
theorem c_X1_boundOf (N : Nat) (lt b c ms rd m : Bd) (P : PL) (x1 x2 x3 : Int) (l : Launch) (D : va_G) (E : ET) (a : Int × Bd × Bd × PL) (ha : f_X1_boundOf N b c P x1 x2 x3 = some a) : Ct l yX1_boundOf (Cond.code yX1_boundOf cX1_boundOf 16 (some (.object "LoopTypes$Graph")) :: lw_g) ({ frames := 5, cells := 2, slots := 122, locals := 118 } : Room) D E [.ref (E.2.2.2 + 15), vG (E.2.2.2) x1, vG (E.2.2.2) x2, vI x3, .ref (E.2.2.2 + 5)] (Zw E lt b c ms rd m P) (Zw E lt a.2.1 a.2.2.1 ms rd m a.2.2.2) (some (vG E.2.2.2 a.1)) :=
  ct_of (av := fun E => [.ref (E.2.2.2 + 15), vG (E.2.2.2) x1, vG (E.2.2.2) x2, vI x3, .ref (E.2.2.2 + 5)]) (W0 := fun E => Zw E lt b c ms rd m P) (W1 := fun E (a : Int × Bd × Bd × PL) => Zw E lt a.2.1 a.2.2.1 ms rd m a.2.2.2) (rw := fun E a => some (vG E.2.2.2 a.1)) (by decide) rfl (fun E => Zw_d E lt b c ms rd m P) (fun E => by simp [lg_sl, z_cat, z_catR, z_catI, z_catL]) (fun K X => r_lv (by simp [lv_args, z_cat, z_catR, z_catI, z_catL]) (t_X1_boundOf N lt b c ms rd m P x1 x2 x3 K X)) l D E a ha
