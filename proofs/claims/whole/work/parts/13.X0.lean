abbrev Q_X0_start (K : KT) (lt b c ms rd m : Bd) (P : PL) : (Bd) → State → Prop := Qm K ({ frames := 0, cells := 0, slots := 0, locals := 0 } : Room) (fun a : Bd => Zw (kE K) lt a c ms rd m P) (fun a => none)
set_option maxRecDepth 100000 in
set_option maxHeartbeats 4000000 in
theorem t_X0_start (N : Nat) (lt b c ms rd m : Bd) (P : PL) (K : KT) (X : Kok K cX0_start yX0_start.cls lw_g ({ frames := 0, cells := 0, slots := 0, locals := 0 } : Room) none 1) : Rn K (Q_X0_start K lt b c ms rd m P) 0 0 (f_X0_start b) 0 [(0, .ref (kB K + 5))] [] (Zw (kE K) lt b c ms rd m P) := by
  unfold f_X0_start
  refine r_aload_n (pc := 0) X 0 dX0_start_0 rfl rfl ?_
  refine r_iconst (pc := 1) X 0 dX0_start_1 (by decide) ?_
  refine r_put (pc := 2) (ws' := (Zw (kE K) lt (bs0 b 3 0) c ms rd m P)) X 5 3 inX0 tyX0 tyX0_ok nmX0 rfl rfl (by decide) tf_X0_39 rfl (tyX0_ok 3 (by decide)) rfl rfl (Nat.le_of_ble_eq_true rfl) rfl dX0_start_2 ?_
  exact r_vret (pc := 5) X rfl rfl (by decide) dX0_start_5
theorem c_X0_start (N : Nat) (lt b c ms rd m : Bd) (P : PL) (l : Launch) (D : va_G) (E : ET) (a : Bd) (ha : f_X0_start b = some a) : Ct l yX0_start (Cond.code yX0_start cX0_start 1 none :: lw_g) ({ frames := 0, cells := 0, slots := 0, locals := 0 } : Room) D E [.ref (E.2.2.2 + 5)] (Zw E lt b c ms rd m P) (Zw E lt a c ms rd m P) (none) :=
  ct_of (av := fun E => [.ref (E.2.2.2 + 5)]) (W0 := fun E => Zw E lt b c ms rd m P) (W1 := fun E (a : Bd) => Zw E lt a c ms rd m P) (rw := fun E a => none) (by decide) rfl (fun E => Zw_d E lt b c ms rd m P) (fun E => by simp [lg_sl, z_cat, z_catR, z_catI, z_catL]) (fun K X => r_lv (by simp [lv_args, z_cat, z_catR, z_catI, z_catL]) (t_X0_start N lt b c ms rd m P  K X)) l D E a ha
abbrev Q_X0_holds (K : KT) (lt b c ms rd m : Bd) (P : PL) : (Int) → State → Prop := Qm K ({ frames := 0, cells := 0, slots := 0, locals := 0 } : Room) (fun a : Int => Zw (kE K) lt b c ms rd m P) (fun a => some (vI a))
set_option maxRecDepth 100000 in
set_option maxHeartbeats 4000000 in
theorem t_X0_holds (N : Nat) (lt b c ms rd m : Bd) (P : PL) (x0 : Int) (K : KT) (X : Kok K cX0_holds yX0_holds.cls lw_g ({ frames := 0, cells := 0, slots := 0, locals := 0 } : Room) (some .boolean) 1) : Rn K (Q_X0_holds K lt b c ms rd m P) 0 0 (f_X0_holds x0) 0 [(0, vI x0)] [] (Zw (kE K) lt b c ms rd m P) := by
  unfold f_X0_holds
  refine r_iload_n (pc := 0) X 0 dX0_holds_0 rfl rfl ?_
  refine r_ck1 (fun h1 => ?_)
  refine r_iflt (pc := 1) X h1 dX0_holds_1 (tgt := 15) (by decide) (fun h2 => ?_) (fun h2 => ?_)
  · refine r_iconst (pc := 15) X 0 dX0_holds_15 (by decide) ?_
    exact r_zret (pc := 16) X (by decide) rfl rfl (by decide) dX0_holds_16
  · refine r_iload_n (pc := 4) X 0 dX0_holds_4 rfl rfl ?_
    refine r_sipush (pc := 5) X 3280 dX0_holds_5 (by decide) ?_
    refine r_icmp_ge (pc := 8) X h1 (by decide) dX0_holds_8 (tgt := 15) (by decide) (fun h3 => ?_) (fun h3 => ?_)
    · refine r_iconst (pc := 15) X 0 dX0_holds_15 (by decide) ?_
      exact r_zret (pc := 16) X (by decide) rfl rfl (by decide) dX0_holds_16
    · refine r_iconst (pc := 11) X 1 dX0_holds_11 (by decide) ?_
      refine r_goto (pc := 12) X dX0_holds_12 (tgt := 16) (by decide) ?_
      exact r_zret (pc := 16) X (by decide) rfl rfl (by decide) dX0_holds_16
theorem c_X0_holds (N : Nat) (lt b c ms rd m : Bd) (P : PL) (x0 : Int) (l : Launch) (D : va_G) (E : ET) (a : Int) (ha : f_X0_holds x0 = some a) : Ct l yX0_holds (Cond.code yX0_holds cX0_holds 1 (some .boolean) :: lw_g) ({ frames := 0, cells := 0, slots := 0, locals := 0 } : Room) D E [vI x0] (Zw E lt b c ms rd m P) (Zw E lt b c ms rd m P) (some (vI a)) :=
  ct_of (av := fun E => [vI x0]) (W0 := fun E => Zw E lt b c ms rd m P) (W1 := fun E (a : Int) => Zw E lt b c ms rd m P) (rw := fun E a => some (vI a)) (by decide) rfl (fun E => Zw_d E lt b c ms rd m P) (fun E => by simp [lg_sl, z_cat, z_catR, z_catI, z_catL]) (fun K X => r_lv (by simp [lv_args, z_cat, z_catR, z_catI, z_catL]) (t_X0_holds N lt b c ms rd m P x0 K X)) l D E a ha
abbrev Q_X0_put (K : KT) (lt b c ms rd m : Bd) (P : PL) : (Int × Bd) → State → Prop := Qm K ({ frames := 1, cells := 0, slots := 0, locals := 20 } : Room) (fun a : Int × Bd => Zw (kE K) lt a.2 c ms rd m P) (fun a => some (vI a.1))
set_option maxRecDepth 100000 in
set_option maxHeartbeats 4000000 in
theorem t_X0_put (N : Nat) (lt b c ms rd m : Bd) (P : PL) (x1 x2 x3 : Int) (K : KT) (X : Kok K cX0_put yX0_put.cls lw_g ({ frames := 1, cells := 0, slots := 0, locals := 20 } : Room) (some .int) 5) : Rn K (Q_X0_put K lt b c ms rd m P) 0 0 (f_X0_put b x1 x2 x3) 0 [(0, .ref (kB K + 5)), (1, vI x1), (2, vI x2), (3, vI x3)] [] (Zw (kE K) lt b c ms rd m P) := by
  unfold f_X0_put
  refine r_aload_n (pc := 0) X 0 dX0_put_0 rfl rfl ?_
  refine r_get (pc := 1) (v := vI (b 3 0)) X 5 3 inX0 rfl rfl (by decide) tf_X0_39 rfl dX0_put_1 ?_
  refine r_sipush (pc := 4) X 3280 dX0_put_4 (by decide) ?_
  refine r_ck1 (fun h1 => ?_)
  refine r_icmp_ge (pc := 7) X h1 (by decide) dX0_put_7 (tgt := 20) (by decide) (fun h2 => ?_) (fun h2 => ?_)
  · refine r_iconst (pc := 20) X 0 dX0_put_20 (by decide) ?_
    exact r_iret (pc := 21) X rfl rfl (by decide) dX0_put_21
  · refine r_iload_n (pc := 10) X 1 dX0_put_10 rfl rfl ?_
    refine r_ck1 (fun h3 => ?_)
    refine r_iflt (pc := 11) X h3 dX0_put_11 (tgt := 20) (by decide) (fun h4 => ?_) (fun h4 => ?_)
    · refine r_iconst (pc := 20) X 0 dX0_put_20 (by decide) ?_
      exact r_iret (pc := 21) X rfl rfl (by decide) dX0_put_21
    · refine r_iload_n (pc := 14) X 1 dX0_put_14 rfl rfl ?_
      refine r_bipush (pc := 15) X 7 dX0_put_15 (by decide) ?_
      refine r_icmp_lt (pc := 17) X h3 (by decide) dX0_put_17 (tgt := 22) (by decide) (fun h5 => ?_) (fun h5 => ?_)
      · refine r_aload_n (pc := 22) X 0 dX0_put_22 rfl rfl ?_
        refine r_get (pc := 23) (v := vI (b 3 0)) X 5 3 inX0 rfl rfl (by decide) tf_X0_39 rfl dX0_put_23 ?_
        refine r_istore (pc := 26) (lv' := [(0, .ref (kB K + 5)), (1, vI x1), (2, vI x2), (3, vI x3), (4, vI (b 3 0))]) X [1, 2, 3, 4, 0] dX0_put_26 (by decide) rfl ?_
        refine r_aload_n (pc := 28) X 0 dX0_put_28 rfl rfl ?_
        refine r_get (pc := 29) (v := .ref (kB K + 6)) X 5 0 inX0 rfl rfl (by decide) tf_X0_9 rfl dX0_put_29 ?_
        refine r_iload (pc := 32) X 4 dX0_put_32 rfl ?_
        refine r_iload_n (pc := 34) X 1 dX0_put_34 rfl rfl ?_
        refine r_ckA (fun h6 => ?_)
        refine r_iast (pc := 35) (f := b 0) (ws' := (Zw (kE K) lt (bS b 0 (aS (b 0) (b 3 0) x1)) c ms rd m P)) X 6 h6 zl_3280 rfl rfl dX0_put_35 ?_
        refine r_aload_n (pc := 36) X 0 dX0_put_36 rfl rfl ?_
        refine r_get (pc := 37) (v := .ref (kB K + 7)) X 5 1 inX0 rfl rfl (by decide) tf_X0_15 rfl dX0_put_37 ?_
        refine r_iload (pc := 40) X 4 dX0_put_40 rfl ?_
        refine r_iload_n (pc := 42) X 2 dX0_put_42 rfl rfl ?_
        refine r_callS (pc := 43) (As := [vI x2]) (rest := [vI (b 3 0), .ref (kB K + 7)]) (W' := fun q43_7 => (Zw (kE K) lt (bS b 0 (aS (b 0) (b 3 0) x1)) c ms rd m P)) (rv := fun q43_7 => some (vI q43_7)) X dX0_put_43 rfl (fun a ha => c_X0_holds N lt (bS b 0 (aS (b 0) (b 3 0) x1)) c ms rd m P x2 K.1.2.1 K.2.2.1.1 (kE K) a ha) (fun a => Zw_d _ _ _ _ _ _ _ _) gd_X0_43 rfl (n := 1) (by decide) rfl (by decide) (by simp [z_cat, z_catR, z_catI, z_catL]) (fun q43_7 eq43_7 => ?_)
        show Rn K _ 0 0 _ 46 [(0, .ref (kB K + 5)), (1, vI x1), (2, vI x2), (3, vI x3), (4, vI (b 3 0))] [vI q43_7, vI (b 3 0), .ref (kB K + 7)] (Zw (kE K) lt (bS b 0 (aS (b 0) (b 3 0) x1)) c ms rd m P)
        refine r_jn (J := fun j54 => ∀ (s2_54 : Int), Rn K (Q_X0_put K lt b c ms rd m P) 0 0 (j54 s2_54) 54 [(0, .ref (kB K + 5)), (3, vI x3), (4, vI (b 3 0))] [vI s2_54, vI (b 3 0), .ref (kB K + 7)] (Zw (kE K) lt (bS b 0 (aS (b 0) (b 3 0) x1)) c ms rd m P)) ?_ (fun j54 hj54 => ?_)
        · intro s2_54
          refine r_iast (pc := 54) (f := b 1) (ws' := (Zw (kE K) lt (bS (bS b 0 (aS (b 0) (b 3 0) x1)) 1 (aS (b 1) (b 3 0) s2_54)) c ms rd m P)) X 7 h6 zl_3280 rfl rfl dX0_put_54 ?_
          refine r_aload_n (pc := 55) X 0 dX0_put_55 rfl rfl ?_
          refine r_get (pc := 56) (v := .ref (kB K + 8)) X 5 2 inX0 rfl rfl (by decide) tf_X0_18 rfl dX0_put_56 ?_
          refine r_iload (pc := 59) X 2 dX0_put_59 rfl ?_
          refine r_iload_n (pc := 61) X 1 dX0_put_61 rfl rfl ?_
          refine r_callS (pc := 62) (As := [vI x3]) (rest := [vI (b 3 0), .ref (kB K + 8)]) (W' := fun q62_8 => (Zw (kE K) lt (bS (bS b 0 (aS (b 0) (b 3 0) x1)) 1 (aS (b 1) (b 3 0) s2_54)) c ms rd m P)) (rv := fun q62_8 => some (vI q62_8)) X dX0_put_62 rfl (fun a ha => c_X0_holds N lt (bS (bS b 0 (aS (b 0) (b 3 0) x1)) 1 (aS (b 1) (b 3 0) s2_54)) c ms rd m P x3 K.1.2.1 K.2.2.1.1 (kE K) a ha) (fun a => Zw_d _ _ _ _ _ _ _ _) gd_X0_43 rfl (n := 1) (by decide) rfl (by decide) (by simp [z_cat, z_catR, z_catI, z_catL]) (fun q62_8 eq62_8 => ?_)
          show Rn K _ 0 0 _ 65 [(0, .ref (kB K + 5)), (3, vI x3), (4, vI (b 3 0))] [vI q62_8, vI (b 3 0), .ref (kB K + 8)] (Zw (kE K) lt (bS (bS b 0 (aS (b 0) (b 3 0) x1)) 1 (aS (b 1) (b 3 0) s2_54)) c ms rd m P)
          refine r_jn (J := fun j73 => ∀ (s2_73 : Int), Rn K (Q_X0_put K lt b c ms rd m P) 0 0 (j73 s2_73) 73 [(0, .ref (kB K + 5)), (4, vI (b 3 0))] [vI s2_73, vI (b 3 0), .ref (kB K + 8)] (Zw (kE K) lt (bS (bS b 0 (aS (b 0) (b 3 0) x1)) 1 (aS (b 1) (b 3 0) s2_54)) c ms rd m P)) ?_ (fun j73 hj73 => ?_)
          · intro s2_73
            refine r_iast (pc := 73) (f := b 2) (ws' := (Zw (kE K) lt (bS (bS (bS b 0 (aS (b 0) (b 3 0) x1)) 1 (aS (b 1) (b 3 0) s2_54)) 2 (aS (b 2) (b 3 0) s2_73)) c ms rd m P)) X 8 h6 zl_3280 rfl rfl dX0_put_73 ?_
            refine r_aload_n (pc := 74) X 0 dX0_put_74 rfl rfl ?_
            refine r_dup (pc := 75) X dX0_put_75 rfl ?_
            refine r_get (pc := 76) (v := vI (b 3 0)) X 5 3 inX0 rfl rfl (by decide) tf_X0_39 rfl dX0_put_76 ?_
            refine r_iconst (pc := 79) X 1 dX0_put_79 (by decide) ?_
            refine r_iadd (pc := 80) X dX0_put_80 ?_
            refine r_put (pc := 81) (ws' := (Zw (kE K) lt (bs0 (bS (bS (bS b 0 (aS (b 0) (b 3 0) x1)) 1 (aS (b 1) (b 3 0) s2_54)) 2 (aS (b 2) (b 3 0) s2_73)) 3 ((b 3 0) + 1)) c ms rd m P)) X 5 3 inX0 tyX0 tyX0_ok nmX0 rfl rfl (by decide) tf_X0_39 rfl (tyX0_ok 3 (by decide)) rfl rfl (Nat.le_of_ble_eq_true rfl) rfl dX0_put_81 ?_
            refine r_iload (pc := 84) X 1 dX0_put_84 rfl ?_
            exact r_iret (pc := 86) X rfl rfl (by decide) dX0_put_86
          refine r_ck1 (fun h9 => ?_)
          refine r_ifeq (pc := 65) X h9 dX0_put_65 (tgt := 72) (by decide) (fun h10 => ?_) (fun h10 => ?_)
          · refine r_iconst (pc := 72) X 0 dX0_put_72 (by decide) ?_
            refine r_sub [0, 2] rfl ?_
            exact hj73 0
          · refine r_iload_n (pc := 68) X 1 dX0_put_68 rfl rfl ?_
            refine r_goto (pc := 69) X dX0_put_69 (tgt := 73) (by decide) ?_
            refine r_sub [0, 2] rfl ?_
            exact hj73 x3
        refine r_ck1 (fun h11 => ?_)
        refine r_ifeq (pc := 46) X h11 dX0_put_46 (tgt := 53) (by decide) (fun h12 => ?_) (fun h12 => ?_)
        · refine r_iconst (pc := 53) X 0 dX0_put_53 (by decide) ?_
          refine r_sub [0, 3, 4] rfl ?_
          exact hj54 0
        · refine r_iload_n (pc := 49) X 2 dX0_put_49 rfl rfl ?_
          refine r_goto (pc := 50) X dX0_put_50 (tgt := 54) (by decide) ?_
          refine r_sub [0, 3, 4] rfl ?_
          exact hj54 x2
      · refine r_iconst (pc := 20) X 0 dX0_put_20 (by decide) ?_
        exact r_iret (pc := 21) X rfl rfl (by decide) dX0_put_21
theorem c_X0_put (N : Nat) (lt b c ms rd m : Bd) (P : PL) (x1 x2 x3 : Int) (l : Launch) (D : va_G) (E : ET) (a : Int × Bd) (ha : f_X0_put b x1 x2 x3 = some a) : Ct l yX0_put (Cond.code yX0_put cX0_put 5 (some .int) :: lw_g) ({ frames := 1, cells := 0, slots := 0, locals := 20 } : Room) D E [.ref (E.2.2.2 + 5), vI x1, vI x2, vI x3] (Zw E lt b c ms rd m P) (Zw E lt a.2 c ms rd m P) (some (vI a.1)) :=
  ct_of (av := fun E => [.ref (E.2.2.2 + 5), vI x1, vI x2, vI x3]) (W0 := fun E => Zw E lt b c ms rd m P) (W1 := fun E (a : Int × Bd) => Zw E lt a.2 c ms rd m P) (rw := fun E a => some (vI a.1)) (by decide) rfl (fun E => Zw_d E lt b c ms rd m P) (fun E => by simp [lg_sl, z_cat, z_catR, z_catI, z_catL]) (fun K X => r_lv (by simp [lv_args, z_cat, z_catR, z_catI, z_catL]) (t_X0_put N lt b c ms rd m P x1 x2 x3 K X)) l D E a ha
abbrev Q_X0_putAll (K : KT) (lt b c ms rd m : Bd) (P : PL) : (Int × Bd) → State → Prop := Qm K ({ frames := 2, cells := 0, slots := 0, locals := 44 } : Room) (fun a : Int × Bd => Zw (kE K) lt a.2 c ms rd m P) (fun a => some (vI a.1))
set_option maxRecDepth 100000 in
set_option maxHeartbeats 4000000 in
theorem t_X0_putAll_L7 (N : Nat) (lt b c ms rd m : Bd) (P : PL) (x1 x2 : Int) (K : KT) (X : Kok K cX0_putAll yX0_putAll.cls lw_g ({ frames := 2, cells := 0, slots := 0, locals := 44 } : Room) (some .int) 4) (k : Bd → Option (Int × Bd)) (hk : ∀ (b1 : Bd), Rn K (Q_X0_putAll K lt b c ms rd m P) 0 0 (k b1) 47 [(2, vI x2)] [] (Zw (kE K) lt b1 c ms rd m P)) : ∀ (n : Nat) (x3 : Int) (b1 : Bd), Rn K (Q_X0_putAll K lt b c ms rd m P) 0 0 (f_X0_putAll_L7 P x1 x2 k n x3 b1) 7 [(0, .ref (kB K + 5)), (1, vG (kB K) x1), (2, vI x2), (3, vI x3)] [] (Zw (kE K) lt b1 c ms rd m P) := by
  intro n
  induction n with
  | zero =>
    intro x3 b1
    rw [f_X0_putAll_L7]
    exact r_none
  | succ n ih =>
    intro x3 b1
    rw [f_X0_putAll_L7]
    refine r_iload_n (pc := 7) X 3 dX0_putAll_7 rfl rfl ?_
    refine r_gload_n (pc := 8) X 1 dX0_putAll_8 rfl rfl ?_
    refine r_ckG (fun h1 => ?_)
    refine r_rf0 h1.1 ?_
    refine r_get (pc := 9) (v := vI ((gP P x1).1)) X (62 + 2 * (x1).toNat) 0 inX2 (zg_gobj h1) rfl (by decide) tf_X0_47 rfl dX0_putAll_9 ?_
    refine r_ck1 (fun h2 => ?_)
    refine r_ck1 (fun h3 => ?_)
    refine r_icmp_ge (pc := 12) X h2 h3 dX0_putAll_12 (tgt := 47) (by decide) (fun h4 => ?_) (fun h4 => ?_)
    · refine r_sub [2] rfl ?_
      exact hk b1
    · refine r_aload_n (pc := 15) X 0 dX0_putAll_15 rfl rfl ?_
      refine r_gload_n (pc := 16) X 1 dX0_putAll_16 rfl rfl ?_
      refine r_iload_n (pc := 17) X 3 dX0_putAll_17 rfl rfl ?_
      refine r_rf1 h1.1 ?_
      refine r_callV (pc := 18) (q0 := (62 + 2 * (x1).toNat)) (ci := 2) (As := [vI x3]) (rest := [.ref (kB K + 5)]) (W' := fun q18_5 => (Zw (kE K) lt b1 c ms rd m P)) (rv := fun q18_5 => some (vI q18_5)) X dX0_putAll_18 rfl (fun a ha => c_X2_headAt N lt b1 c ms rd m P x1 h1 x3 K.1.2.1 K.2.2.1.1 (kE K) a ha) (fun a => Zw_d _ _ _ _ _ _ _ _) gd_X0_52 rfl (n := 1) (by decide) rfl (by decide) rfl rfl (zg_gobj h1) (by simp [z_cat, z_catR, z_catI, z_catL]) (fun q18_5 eq18_5 => ?_)
      show Rn K _ 0 0 _ 21 [(0, .ref (kB K + 5)), (1, vG (kB K) x1), (2, vI x2), (3, vI x3)] [vI q18_5, .ref (kB K + 5)] (Zw (kE K) lt b1 c ms rd m P)
      refine r_iload_n (pc := 21) X 2 dX0_putAll_21 rfl rfl ?_
      refine r_gload_n (pc := 22) X 1 dX0_putAll_22 rfl rfl ?_
      refine r_iload_n (pc := 23) X 3 dX0_putAll_23 rfl rfl ?_
      refine r_iconst (pc := 24) X 0 dX0_putAll_24 (by decide) ?_
      refine r_rf2 h1.1 ?_
      refine r_callV (pc := 25) (q0 := (62 + 2 * (x1).toNat)) (ci := 2) (As := [vI x3, vI 0]) (rest := [vI x2, vI q18_5, .ref (kB K + 5)]) (W' := fun q25_6 => (Zw (kE K) lt b1 c ms rd m P)) (rv := fun q25_6 => some (vI q25_6)) X dX0_putAll_25 rfl (fun a ha => c_X2_partAt N lt b1 c ms rd m P x1 h1 x3 0 K.1.2.1 K.2.2.1.1 (kE K) a ha) (fun a => Zw_d _ _ _ _ _ _ _ _) gd_X0_56 rfl (n := 2) (by decide) rfl (by decide) rfl rfl (zg_gobj h1) (by simp [z_cat, z_catR, z_catI, z_catL]) (fun q25_6 eq25_6 => ?_)
      show Rn K _ 0 0 _ 28 [(0, .ref (kB K + 5)), (1, vG (kB K) x1), (2, vI x2), (3, vI x3)] [vI q25_6, vI x2, vI q18_5, .ref (kB K + 5)] (Zw (kE K) lt b1 c ms rd m P)
      refine r_iadd (pc := 28) X dX0_putAll_28 ?_
      refine r_iload_n (pc := 29) X 2 dX0_putAll_29 rfl rfl ?_
      refine r_gload_n (pc := 30) X 1 dX0_putAll_30 rfl rfl ?_
      refine r_iload_n (pc := 31) X 3 dX0_putAll_31 rfl rfl ?_
      refine r_iconst (pc := 32) X 1 dX0_putAll_32 (by decide) ?_
      refine r_rf2 h1.1 ?_
      refine r_callV (pc := 33) (q0 := (62 + 2 * (x1).toNat)) (ci := 2) (As := [vI x3, vI 1]) (rest := [vI x2, vI (x2 + q25_6), vI q18_5, .ref (kB K + 5)]) (W' := fun q33_7 => (Zw (kE K) lt b1 c ms rd m P)) (rv := fun q33_7 => some (vI q33_7)) X dX0_putAll_33 rfl (fun a ha => c_X2_partAt N lt b1 c ms rd m P x1 h1 x3 1 K.1.2.1 K.2.2.1.1 (kE K) a ha) (fun a => Zw_d _ _ _ _ _ _ _ _) gd_X0_56 rfl (n := 2) (by decide) rfl (by decide) rfl rfl (zg_gobj h1) (by simp [z_cat, z_catR, z_catI, z_catL]) (fun q33_7 eq33_7 => ?_)
      show Rn K _ 0 0 _ 36 [(0, .ref (kB K + 5)), (1, vG (kB K) x1), (2, vI x2), (3, vI x3)] [vI q33_7, vI x2, vI (x2 + q25_6), vI q18_5, .ref (kB K + 5)] (Zw (kE K) lt b1 c ms rd m P)
      refine r_iadd (pc := 36) X dX0_putAll_36 ?_
      refine r_callV (pc := 37) (q0 := 5) (ci := 0) (As := [vI q18_5, vI (x2 + q25_6), vI (x2 + q33_7)]) (rest := []) (W' := fun q37_8 => (Zw (kE K) lt q37_8.2 c ms rd m P)) (rv := fun q37_8 => some (vI q37_8.1)) X dX0_putAll_37 rfl (fun a ha => c_X0_put N lt b1 c ms rd m P q18_5 (x2 + q25_6) (x2 + q33_7) K.1.2.1 K.2.2.1.1 (kE K) a ha) (fun a => Zw_d _ _ _ _ _ _ _ _) gd_X0_60 rfl (n := 3) (by decide) rfl (by decide) rfl rfl rfl (Nat.zero_le _) (fun q37_8 eq37_8 => ?_)
      show Rn K _ 0 0 _ 40 [(0, .ref (kB K + 5)), (1, vG (kB K) x1), (2, vI x2), (3, vI x3)] [vI q37_8.1] (Zw (kE K) lt q37_8.2 c ms rd m P)
      refine r_pop (pc := 40) X dX0_putAll_40 rfl ?_
      refine r_iinc (pc := 41) (lv' := [(0, .ref (kB K + 5)), (1, vG (kB K) x1), (2, vI x2), (3, vI (x3 + 1))]) X 3 [1, 2, 3, 0] dX0_putAll_41 rfl (by decide) rfl ?_
      refine r_goto (pc := 44) X dX0_putAll_44 (tgt := 7) (by decide) ?_
      exact ih (x3 + 1) q37_8.2
set_option maxRecDepth 100000 in
set_option maxHeartbeats 4000000 in
theorem t_X0_putAll (N : Nat) (lt b c ms rd m : Bd) (P : PL) (x1 : Int) (K : KT) (X : Kok K cX0_putAll yX0_putAll.cls lw_g ({ frames := 2, cells := 0, slots := 0, locals := 44 } : Room) (some .int) 4) : Rn K (Q_X0_putAll K lt b c ms rd m P) 0 0 (f_X0_putAll N b P x1) 0 [(0, .ref (kB K + 5)), (1, vG (kB K) x1)] [] (Zw (kE K) lt b c ms rd m P) := by
  unfold f_X0_putAll
  refine r_aload_n (pc := 0) X 0 dX0_putAll_0 rfl rfl ?_
  refine r_get (pc := 1) (v := vI (b 3 0)) X 5 3 inX0 rfl rfl (by decide) tf_X0_39 rfl dX0_putAll_1 ?_
  refine r_istore_n (pc := 4) (i := 2) (lv' := [(0, .ref (kB K + 5)), (1, vG (kB K) x1), (2, vI (b 3 0))]) X [1, 2, 0] dX0_putAll_4 rfl (by decide) (by simp [lv_pick, z_cat]) ?_
  refine r_iconst (pc := 5) X 0 dX0_putAll_5 (by decide) ?_
  refine r_istore_n (pc := 6) (lv' := [(0, .ref (kB K + 5)), (1, vG (kB K) x1), (2, vI (b 3 0)), (3, vI 0)]) X [1, 2, 3, 0] dX0_putAll_6 rfl (by decide) rfl ?_
  refine t_X0_putAll_L7 N lt b c ms rd m P  x1 (b 3 0) K X _ ?_ N 0 b
  intro b_7
  refine r_iload_n (pc := 47) X 0 dX0_putAll_47 rfl rfl ?_
  exact r_iret (pc := 48) X rfl rfl (by decide) dX0_putAll_48
theorem c_X0_putAll (N : Nat) (lt b c ms rd m : Bd) (P : PL) (x1 : Int) (l : Launch) (D : va_G) (E : ET) (a : Int × Bd) (ha : f_X0_putAll N b P x1 = some a) : Ct l yX0_putAll (Cond.code yX0_putAll cX0_putAll 4 (some .int) :: lw_g) ({ frames := 2, cells := 0, slots := 0, locals := 44 } : Room) D E [.ref (E.2.2.2 + 5), vG (E.2.2.2) x1] (Zw E lt b c ms rd m P) (Zw E lt a.2 c ms rd m P) (some (vI a.1)) :=
  ct_of (av := fun E => [.ref (E.2.2.2 + 5), vG (E.2.2.2) x1]) (W0 := fun E => Zw E lt b c ms rd m P) (W1 := fun E (a : Int × Bd) => Zw E lt a.2 c ms rd m P) (rw := fun E a => some (vI a.1)) (by decide) rfl (fun E => Zw_d E lt b c ms rd m P) (fun E => by simp [lg_sl, z_cat, z_catR, z_catI, z_catL]) (fun K X => r_lv (by simp [lv_args, z_cat, z_catR, z_catI, z_catL]) (t_X0_putAll N lt b c ms rd m P x1 K X)) l D E a ha
abbrev Q_X0_link (K : KT) (lt b c ms rd m : Bd) (P : PL) : (Bd) → State → Prop := Qm K ({ frames := 1, cells := 0, slots := 0, locals := 20 } : Room) (fun a : Bd => Zw (kE K) lt a c ms rd m P) (fun a => none)
set_option maxRecDepth 100000 in
set_option maxHeartbeats 4000000 in
theorem t_X0_link (N : Nat) (lt b c ms rd m : Bd) (P : PL) (x1 x2 x3 : Int) (K : KT) (X : Kok K cX0_link yX0_link.cls lw_g ({ frames := 1, cells := 0, slots := 0, locals := 20 } : Room) none 4) : Rn K (Q_X0_link K lt b c ms rd m P) 0 0 (f_X0_link b x1 x2 x3) 0 [(0, .ref (kB K + 5)), (1, vI x1), (2, vI x2), (3, vI x3)] [] (Zw (kE K) lt b c ms rd m P) := by
  unfold f_X0_link
  refine r_iload_n (pc := 0) X 1 dX0_link_0 rfl rfl ?_
  refine r_callS (pc := 1) (As := [vI x1]) (rest := []) (W' := fun q1_1 => (Zw (kE K) lt b c ms rd m P)) (rv := fun q1_1 => some (vI q1_1)) X dX0_link_1 rfl (fun a ha => c_X0_holds N lt b c ms rd m P x1 K.1.2.1 K.2.2.1.1 (kE K) a ha) (fun a => Zw_d _ _ _ _ _ _ _ _) gd_X0_43 rfl (n := 1) (by decide) rfl (by decide) (Nat.zero_le _) (fun q1_1 eq1_1 => ?_)
  show Rn K _ 0 0 _ 4 [(0, .ref (kB K + 5)), (1, vI x1), (2, vI x2), (3, vI x3)] [vI q1_1] (Zw (kE K) lt b c ms rd m P)
  refine r_ck1 (fun h2 => ?_)
  refine r_ifeq (pc := 4) X h2 dX0_link_4 (tgt := 14) (by decide) (fun h3 => ?_) (fun h3 => ?_)
  · exact r_vret (pc := 14) X rfl rfl (by decide) dX0_link_14
  · refine r_iload_n (pc := 7) X 3 dX0_link_7 rfl rfl ?_
    refine r_callS (pc := 8) (As := [vI x3]) (rest := []) (W' := fun q8_4 => (Zw (kE K) lt b c ms rd m P)) (rv := fun q8_4 => some (vI q8_4)) X dX0_link_8 rfl (fun a ha => c_X0_holds N lt b c ms rd m P x3 K.1.2.1 K.2.2.1.1 (kE K) a ha) (fun a => Zw_d _ _ _ _ _ _ _ _) gd_X0_43 rfl (n := 1) (by decide) rfl (by decide) (Nat.zero_le _) (fun q8_4 eq8_4 => ?_)
    show Rn K _ 0 0 _ 11 [(0, .ref (kB K + 5)), (1, vI x1), (2, vI x2), (3, vI x3)] [vI q8_4] (Zw (kE K) lt b c ms rd m P)
    refine r_ck1 (fun h5 => ?_)
    refine r_ifne (pc := 11) X h5 dX0_link_11 (tgt := 15) (by decide) (fun h6 => ?_) (fun h6 => ?_)
    · refine r_iload_n (pc := 15) X 2 dX0_link_15 rfl rfl ?_
      refine r_ck1 (fun h7 => ?_)
      refine r_ifne (pc := 16) X h7 dX0_link_16 (tgt := 29) (by decide) (fun h8 => ?_) (fun h8 => ?_)
      · refine r_aload_n (pc := 29) X 0 dX0_link_29 rfl rfl ?_
        refine r_get (pc := 30) (v := .ref (kB K + 8)) X 5 2 inX0 rfl rfl (by decide) tf_X0_18 rfl dX0_link_30 ?_
        refine r_iload_n (pc := 33) X 1 dX0_link_33 rfl rfl ?_
        refine r_iload_n (pc := 34) X 3 dX0_link_34 rfl rfl ?_
        refine r_ckA (fun h9 => ?_)
        refine r_iast (pc := 35) (f := b 2) (ws' := (Zw (kE K) lt (bS b 2 (aS (b 2) x1 x3)) c ms rd m P)) X 8 h9 zl_3280 rfl rfl dX0_link_35 ?_
        exact r_vret (pc := 36) X rfl rfl (by decide) dX0_link_36
      · refine r_aload_n (pc := 19) X 0 dX0_link_19 rfl rfl ?_
        refine r_get (pc := 20) (v := .ref (kB K + 7)) X 5 1 inX0 rfl rfl (by decide) tf_X0_15 rfl dX0_link_20 ?_
        refine r_iload_n (pc := 23) X 1 dX0_link_23 rfl rfl ?_
        refine r_iload_n (pc := 24) X 3 dX0_link_24 rfl rfl ?_
        refine r_ckA (fun h10 => ?_)
        refine r_iast (pc := 25) (f := b 1) (ws' := (Zw (kE K) lt (bS b 1 (aS (b 1) x1 x3)) c ms rd m P)) X 7 h10 zl_3280 rfl rfl dX0_link_25 ?_
        refine r_goto (pc := 26) X dX0_link_26 (tgt := 36) (by decide) ?_
        exact r_vret (pc := 36) X rfl rfl (by decide) dX0_link_36
    · exact r_vret (pc := 14) X rfl rfl (by decide) dX0_link_14
theorem c_X0_link (N : Nat) (lt b c ms rd m : Bd) (P : PL) (x1 x2 x3 : Int) (l : Launch) (D : va_G) (E : ET) (a : Bd) (ha : f_X0_link b x1 x2 x3 = some a) : Ct l yX0_link (Cond.code yX0_link cX0_link 4 none :: lw_g) ({ frames := 1, cells := 0, slots := 0, locals := 20 } : Room) D E [.ref (E.2.2.2 + 5), vI x1, vI x2, vI x3] (Zw E lt b c ms rd m P) (Zw E lt a c ms rd m P) (none) :=
  ct_of (av := fun E => [.ref (E.2.2.2 + 5), vI x1, vI x2, vI x3]) (W0 := fun E => Zw E lt b c ms rd m P) (W1 := fun E (a : Bd) => Zw E lt a c ms rd m P) (rw := fun E a => none) (by decide) rfl (fun E => Zw_d E lt b c ms rd m P) (fun E => by simp [lg_sl, z_cat, z_catR, z_catI, z_catL]) (fun K X => r_lv (by simp [lv_args, z_cat, z_catR, z_catI, z_catL]) (t_X0_link N lt b c ms rd m P x1 x2 x3 K X)) l D E a ha
abbrev Q_X0_linked (K : KT) (lt b c ms rd m : Bd) (P : PL) : (Int) → State → Prop := Qm K ({ frames := 0, cells := 0, slots := 0, locals := 0 } : Room) (fun a : Int => Zw (kE K) lt b c ms rd m P) (fun a => some (vI a))
set_option maxRecDepth 100000 in
set_option maxHeartbeats 4000000 in
theorem t_X0_linked (N : Nat) (lt b c ms rd m : Bd) (P : PL) (x1 x2 : Int) (K : KT) (X : Kok K cX0_linked yX0_linked.cls lw_g ({ frames := 0, cells := 0, slots := 0, locals := 0 } : Room) (some .int) 3) : Rn K (Q_X0_linked K lt b c ms rd m P) 0 0 (f_X0_linked b x1 x2) 0 [(0, .ref (kB K + 5)), (1, vI x1), (2, vI x2)] [] (Zw (kE K) lt b c ms rd m P) := by
  unfold f_X0_linked
  refine r_iload_n (pc := 0) X 2 dX0_linked_0 rfl rfl ?_
  refine r_ck1 (fun h1 => ?_)
  refine r_ifne (pc := 1) X h1 dX0_linked_1 (tgt := 13) (by decide) (fun h2 => ?_) (fun h2 => ?_)
  · refine r_aload_n (pc := 13) X 0 dX0_linked_13 rfl rfl ?_
    refine r_get (pc := 14) (v := .ref (kB K + 8)) X 5 2 inX0 rfl rfl (by decide) tf_X0_18 rfl dX0_linked_14 ?_
    refine r_iload_n (pc := 17) X 1 dX0_linked_17 rfl rfl ?_
    refine r_ckA (fun h3 => ?_)
    refine r_iald (pc := 18) (f := b 2) X 8 h3 zl_3280 rfl dX0_linked_18 ?_
    exact r_iret (pc := 19) X rfl rfl (by decide) dX0_linked_19
  · refine r_aload_n (pc := 4) X 0 dX0_linked_4 rfl rfl ?_
    refine r_get (pc := 5) (v := .ref (kB K + 7)) X 5 1 inX0 rfl rfl (by decide) tf_X0_15 rfl dX0_linked_5 ?_
    refine r_iload_n (pc := 8) X 1 dX0_linked_8 rfl rfl ?_
    refine r_ckA (fun h4 => ?_)
    refine r_iald (pc := 9) (f := b 1) X 7 h4 zl_3280 rfl dX0_linked_9 ?_
    refine r_goto (pc := 10) X dX0_linked_10 (tgt := 19) (by decide) ?_
    exact r_iret (pc := 19) X rfl rfl (by decide) dX0_linked_19
theorem c_X0_linked (N : Nat) (lt b c ms rd m : Bd) (P : PL) (x1 x2 : Int) (l : Launch) (D : va_G) (E : ET) (a : Int) (ha : f_X0_linked b x1 x2 = some a) : Ct l yX0_linked (Cond.code yX0_linked cX0_linked 3 (some .int) :: lw_g) ({ frames := 0, cells := 0, slots := 0, locals := 0 } : Room) D E [.ref (E.2.2.2 + 5), vI x1, vI x2] (Zw E lt b c ms rd m P) (Zw E lt b c ms rd m P) (some (vI a)) :=
  ct_of (av := fun E => [.ref (E.2.2.2 + 5), vI x1, vI x2]) (W0 := fun E => Zw E lt b c ms rd m P) (W1 := fun E (a : Int) => Zw E lt b c ms rd m P) (rw := fun E a => some (vI a)) (by decide) rfl (fun E => Zw_d E lt b c ms rd m P) (fun E => by simp [lg_sl, z_cat, z_catR, z_catI, z_catL]) (fun K X => r_lv (by simp [lv_args, z_cat, z_catR, z_catI, z_catL]) (t_X0_linked N lt b c ms rd m P x1 x2 K X)) l D E a ha
abbrev Q_X0_reachFrom (K : KT) (lt b c ms rd m : Bd) (P : PL) : (Int × Bd) → State → Prop := Qm K ({ frames := 2, cells := 0, slots := 0, locals := 43 } : Room) (fun a : Int × Bd => Zw (kE K) lt a.2 c ms rd m P) (fun a => some (vI a.1))
set_option maxRecDepth 100000 in
set_option maxHeartbeats 4000000 in
theorem t_X0_reachFrom_L58 (N : Nat) (lt b c ms rd m : Bd) (P : PL) (x3 x4 x5 : Int) (K : KT) (X : Kok K cX0_reachFrom yX0_reachFrom.cls lw_g ({ frames := 2, cells := 0, slots := 0, locals := 43 } : Room) (some .int) 8) (k : Int → Bd → Option (Int × Bd)) (hk : ∀ (x2 : Int) (b1 : Bd), Rn K (Q_X0_reachFrom K lt b c ms rd m P) 0 0 (k x2 b1) 117 [(0, .ref (kB K + 5)), (2, vI x2), (3, vI x3)] [] (Zw (kE K) lt b1 c ms rd m P)) : ∀ (n : Nat) (x2 : Int) (x6 : Int) (b1 : Bd), Rn K (Q_X0_reachFrom K lt b c ms rd m P) 0 0 (f_X0_reachFrom_L58 x3 x4 x5 k n x2 x6 b1) 58 [(0, .ref (kB K + 5)), (2, vI x2), (3, vI x3), (4, vI x4), (5, vI x5), (6, vI x6)] [] (Zw (kE K) lt b1 c ms rd m P) := by
  intro n
  induction n with
  | zero =>
    intro x2 x6 b1
    rw [f_X0_reachFrom_L58]
    exact r_none
  | succ n ih =>
    intro x2 x6 b1
    rw [f_X0_reachFrom_L58]
    refine r_iload (pc := 58) X 5 dX0_reachFrom_58 rfl ?_
    refine r_iload (pc := 60) X 4 dX0_reachFrom_60 rfl ?_
    refine r_ck1 (fun h9 => ?_)
    refine r_ck1 (fun h10 => ?_)
    refine r_icmp_ge (pc := 62) X h9 h10 dX0_reachFrom_62 (tgt := 117) (by decide) (fun h11 => ?_) (fun h11 => ?_)
    · refine r_sub [0, 1, 2] rfl ?_
      exact hk x2 b1
    · refine r_aload_n (pc := 65) X 0 dX0_reachFrom_65 rfl rfl ?_
      refine r_iload (pc := 66) X 3 dX0_reachFrom_66 rfl ?_
      refine r_iload (pc := 68) X 5 dX0_reachFrom_68 rfl ?_
      refine r_callV (pc := 70) (q0 := 5) (ci := 0) (As := [vI x4, vI x6]) (rest := []) (W' := fun q70_12 => (Zw (kE K) lt b1 c ms rd m P)) (rv := fun q70_12 => some (vI q70_12)) X dX0_reachFrom_70 rfl (fun a ha => c_X0_linked N lt b1 c ms rd m P x4 x6 K.1.2.1 K.2.2.1.1 (kE K) a ha) (fun a => Zw_d _ _ _ _ _ _ _ _) gd_X0_113 rfl (n := 2) (by decide) rfl (by decide) rfl rfl rfl (Nat.zero_le _) (fun q70_12 eq70_12 => ?_)
      show Rn K _ 0 0 _ 73 [(0, .ref (kB K + 5)), (2, vI x2), (3, vI x3), (4, vI x4), (5, vI x5), (6, vI x6)] [vI q70_12] (Zw (kE K) lt b1 c ms rd m P)
      refine r_istore (pc := 73) (lv' := [(0, .ref (kB K + 5)), (2, vI x2), (3, vI x3), (4, vI x4), (5, vI x5), (6, vI x6), (7, vI q70_12)]) X [1, 2, 3, 4, 5, 6, 0] dX0_reachFrom_73 (by decide) rfl ?_
      refine r_aload_n (pc := 75) X 0 dX0_reachFrom_75 rfl rfl ?_
      refine r_get (pc := 76) (v := .ref (kB K + 10)) X 5 5 inX0 rfl rfl (by decide) tf_X0_24 rfl dX0_reachFrom_76 ?_
      refine r_iload (pc := 79) X 6 dX0_reachFrom_79 rfl ?_
      refine r_ckA (fun h13 => ?_)
      refine r_iald (pc := 81) (f := b1 5) X 10 h13 zl_3280 rfl dX0_reachFrom_81 ?_
      refine r_ck1 (fun h14 => ?_)
      refine r_ifne (pc := 82) X h14 dX0_reachFrom_82 (tgt := 111) (by decide) (fun h15 => ?_) (fun h15 => ?_)
      · refine r_iinc (pc := 111) (lv' := [(0, .ref (kB K + 5)), (2, vI x2), (3, vI x3), (4, vI x4), (5, vI x5), (6, vI (x6 + 1)), (7, vI q70_12)]) X 5 [1, 2, 3, 4, 5, 0, 6] dX0_reachFrom_111 rfl (by decide) rfl ?_
        refine r_goto (pc := 114) X dX0_reachFrom_114 (tgt := 58) (by decide) ?_
        refine r_sub [0, 1, 2, 3, 4, 5] rfl ?_
        exact ih x2 (x6 + 1) b1
      · refine r_iload_n (pc := 85) X 1 dX0_reachFrom_85 rfl rfl ?_
        refine r_sipush (pc := 86) X 3280 dX0_reachFrom_86 (by decide) ?_
        refine r_ck1 (fun h16 => ?_)
        refine r_icmp_ge (pc := 89) X h16 (by decide) dX0_reachFrom_89 (tgt := 111) (by decide) (fun h17 => ?_) (fun h17 => ?_)
        · refine r_iinc (pc := 111) (lv' := [(0, .ref (kB K + 5)), (2, vI x2), (3, vI x3), (4, vI x4), (5, vI x5), (6, vI (x6 + 1)), (7, vI q70_12)]) X 5 [1, 2, 3, 4, 5, 0, 6] dX0_reachFrom_111 rfl (by decide) rfl ?_
          refine r_goto (pc := 114) X dX0_reachFrom_114 (tgt := 58) (by decide) ?_
          refine r_sub [0, 1, 2, 3, 4, 5] rfl ?_
          exact ih x2 (x6 + 1) b1
        · refine r_aload_n (pc := 92) X 0 dX0_reachFrom_92 rfl rfl ?_
          refine r_get (pc := 93) (v := .ref (kB K + 10)) X 5 5 inX0 rfl rfl (by decide) tf_X0_24 rfl dX0_reachFrom_93 ?_
          refine r_iload (pc := 96) X 6 dX0_reachFrom_96 rfl ?_
          refine r_iconst (pc := 98) X 1 dX0_reachFrom_98 (by decide) ?_
          refine r_iast (pc := 99) (f := b1 5) (ws' := (Zw (kE K) lt (bS b1 5 (aS (b1 5) q70_12 1)) c ms rd m P)) X 10 h13 zl_3280 rfl rfl dX0_reachFrom_99 ?_
          refine r_aload_n (pc := 100) X 0 dX0_reachFrom_100 rfl rfl ?_
          refine r_get (pc := 101) (v := .ref (kB K + 9)) X 5 4 inX0 rfl rfl (by decide) tf_X0_21 rfl dX0_reachFrom_101 ?_
          refine r_iload_n (pc := 104) X 1 dX0_reachFrom_104 rfl rfl ?_
          refine r_iload (pc := 105) X 6 dX0_reachFrom_105 rfl ?_
          refine r_ckA (fun h18 => ?_)
          refine r_iast (pc := 107) (f := b1 4) (ws' := (Zw (kE K) lt (bS (bS b1 4 (aS (b1 4) x2 q70_12)) 5 (aS (b1 5) q70_12 1)) c ms rd m P)) X 9 h18 zl_3280 rfl rfl dX0_reachFrom_107 ?_
          refine r_iinc (pc := 108) (lv' := [(0, .ref (kB K + 5)), (2, vI (x2 + 1)), (3, vI x3), (4, vI x4), (5, vI x5), (6, vI x6), (7, vI q70_12)]) X 1 [1, 0, 2, 3, 4, 5, 6] dX0_reachFrom_108 rfl (by decide) rfl ?_
          refine r_iinc (pc := 111) (lv' := [(0, .ref (kB K + 5)), (2, vI (x2 + 1)), (3, vI x3), (4, vI x4), (5, vI x5), (6, vI (x6 + 1)), (7, vI q70_12)]) X 5 [1, 2, 3, 4, 5, 0, 6] dX0_reachFrom_111 rfl (by decide) rfl ?_
          refine r_goto (pc := 114) X dX0_reachFrom_114 (tgt := 58) (by decide) ?_
          refine r_sub [0, 1, 2, 3, 4, 5] rfl ?_
          exact ih (x2 + 1) (x6 + 1) (bS (bS b1 4 (aS (b1 4) x2 q70_12)) 5 (aS (b1 5) q70_12 1))
set_option maxRecDepth 100000 in
set_option maxHeartbeats 4000000 in
theorem t_X0_reachFrom_L30 (N : Nat) (lt b c ms rd m : Bd) (P : PL) (K : KT) (X : Kok K cX0_reachFrom yX0_reachFrom.cls lw_g ({ frames := 2, cells := 0, slots := 0, locals := 43 } : Room) (some .int) 8) (k : Int → Bd → Option (Int × Bd)) (hk : ∀ (x2 : Int) (b1 : Bd), Rn K (Q_X0_reachFrom K lt b c ms rd m P) 0 0 (k x2 b1) 123 [(2, vI x2)] [] (Zw (kE K) lt b1 c ms rd m P)) : ∀ (n : Nat) (x2 : Int) (x3 : Int) (b1 : Bd), Rn K (Q_X0_reachFrom K lt b c ms rd m P) 0 0 (f_X0_reachFrom_L30 N k n x2 x3 b1) 30 [(0, .ref (kB K + 5)), (2, vI x2), (3, vI x3)] [] (Zw (kE K) lt b1 c ms rd m P) := by
  intro n
  induction n with
  | zero =>
    intro x2 x3 b1
    rw [f_X0_reachFrom_L30]
    exact r_none
  | succ n ih =>
    intro x2 x3 b1
    rw [f_X0_reachFrom_L30]
    refine r_iload_n (pc := 30) X 2 dX0_reachFrom_30 rfl rfl ?_
    refine r_iload_n (pc := 31) X 1 dX0_reachFrom_31 rfl rfl ?_
    refine r_ck1 (fun h3 => ?_)
    refine r_ck1 (fun h4 => ?_)
    refine r_icmp_ge (pc := 32) X h3 h4 dX0_reachFrom_32 (tgt := 123) (by decide) (fun h5 => ?_) (fun h5 => ?_)
    · refine r_sub [1] rfl ?_
      exact hk x2 b1
    · refine r_aload_n (pc := 35) X 0 dX0_reachFrom_35 rfl rfl ?_
      refine r_get (pc := 36) (v := .ref (kB K + 9)) X 5 4 inX0 rfl rfl (by decide) tf_X0_21 rfl dX0_reachFrom_36 ?_
      refine r_iload_n (pc := 39) X 2 dX0_reachFrom_39 rfl rfl ?_
      refine r_ckA (fun h6 => ?_)
      refine r_iald (pc := 40) (f := b1 4) X 9 h6 zl_3280 rfl dX0_reachFrom_40 ?_
      refine r_istore (pc := 41) (lv' := [(0, .ref (kB K + 5)), (2, vI x2), (3, vI x3), (4, vI (b1 4 x3))]) X [1, 2, 3, 0] dX0_reachFrom_41 (by decide) rfl ?_
      refine r_aload_n (pc := 43) X 0 dX0_reachFrom_43 rfl rfl ?_
      refine r_get (pc := 44) (v := .ref (kB K + 6)) X 5 0 inX0 rfl rfl (by decide) tf_X0_9 rfl dX0_reachFrom_44 ?_
      refine r_iload (pc := 47) X 3 dX0_reachFrom_47 rfl ?_
      refine r_ckA (fun h7 => ?_)
      refine r_iald (pc := 49) (f := b1 0) X 6 h7 zl_3280 rfl dX0_reachFrom_49 ?_
      refine r_callN (pc := 50) (As := [vI (b1 0 (b1 4 x3))]) (rest := []) (W' := fun q50_8 => (Zw (kE K) lt b1 c ms rd m P)) (rv := fun q50_8 => some (vI q50_8)) X dX0_reachFrom_50 rfl (fun a ha => c_X5_partsOf N lt b1 c ms rd m P (b1 0 (b1 4 x3)) K.1.2.1 K.2.2.1.1 (kE K) a ha) (fun a => Zw_d _ _ _ _ _ _ _ _) (gd_c tc_X5_partsOf) (by decide) tt_X5_partsOf tn_RX5 rfl (n := 1) (by decide) rfl (by decide) (Nat.zero_le _) (fun q50_8 eq50_8 => ?_)
      show Rn K _ 0 0 _ 53 [(0, .ref (kB K + 5)), (2, vI x2), (3, vI x3), (4, vI (b1 4 x3))] [vI q50_8] (Zw (kE K) lt b1 c ms rd m P)
      refine r_istore (pc := 53) (lv' := [(0, .ref (kB K + 5)), (2, vI x2), (3, vI x3), (4, vI (b1 4 x3)), (5, vI q50_8)]) X [1, 2, 3, 4, 0] dX0_reachFrom_53 (by decide) rfl ?_
      refine r_iconst (pc := 55) X 0 dX0_reachFrom_55 (by decide) ?_
      refine r_istore (pc := 56) (lv' := [(0, .ref (kB K + 5)), (2, vI x2), (3, vI x3), (4, vI (b1 4 x3)), (5, vI q50_8), (6, vI 0)]) X [1, 2, 3, 4, 5, 0] dX0_reachFrom_56 (by decide) rfl ?_
      refine t_X0_reachFrom_L58 N lt b c ms rd m P  x3 (b1 4 x3) q50_8 K X _ ?_ N x2 0 b1
      intro x2_58 b_58
      refine r_iinc (pc := 117) (lv' := [(0, .ref (kB K + 5)), (2, vI x2_58), (3, vI (x3 + 1))]) X 2 [1, 2, 0] dX0_reachFrom_117 rfl (by decide) rfl ?_
      refine r_goto (pc := 120) X dX0_reachFrom_120 (tgt := 30) (by decide) ?_
      exact ih x2_58 (x3 + 1) b_58
set_option maxRecDepth 100000 in
set_option maxHeartbeats 4000000 in
theorem t_X0_reachFrom (N : Nat) (lt b c ms rd m : Bd) (P : PL) (x1 : Int) (K : KT) (X : Kok K cX0_reachFrom yX0_reachFrom.cls lw_g ({ frames := 2, cells := 0, slots := 0, locals := 43 } : Room) (some .int) 8) : Rn K (Q_X0_reachFrom K lt b c ms rd m P) 0 0 (f_X0_reachFrom N b x1) 0 [(0, .ref (kB K + 5)), (1, vI x1)] [] (Zw (kE K) lt b c ms rd m P) := by
  unfold f_X0_reachFrom
  refine r_aload_n (pc := 0) X 0 dX0_reachFrom_0 rfl rfl ?_
  refine r_get (pc := 1) (v := .ref (kB K + 10)) X 5 5 inX0 rfl rfl (by decide) tf_X0_24 rfl dX0_reachFrom_1 ?_
  refine r_aload_n (pc := 4) X 0 dX0_reachFrom_4 rfl rfl ?_
  refine r_get (pc := 5) (v := vI (b 3 0)) X 5 3 inX0 rfl rfl (by decide) tf_X0_39 rfl dX0_reachFrom_5 ?_
  refine r_iconst (pc := 8) X 0 dX0_reachFrom_8 (by decide) ?_
  refine r_callN (pc := 9) (As := [.ref (kB K + 10), vI (b 3 0), vI 0]) (rest := []) (W' := fun q9_1 => (Zw (kE K) lt (bS b 5 q9_1) c ms rd m P)) (rv := fun _ => none) X dX0_reachFrom_9 rfl (fun a ha => c_X5_fillRow N (fun F0 => (Zw (kE K) lt (bS b 5 F0) c ms rd m P)) 10 (kB K + 10) 3280 3280 (b 5) (b 3 0) 0 K.1.2.1 K.2.2.1.1 (kE K) zl_3280 (fun F0 => Zw_d _ _ _ _ _ _ _ _) (fun _ => rfl) (fun _ _ => rfl) a ha) (fun a => Zw_d _ _ _ _ _ _ _ _) (gd_c tc_X5_fillRow) (by decide) tt_X5_fillRow tn_RX5 rfl (n := 3) (by decide) rfl (by decide) (Nat.zero_le _) (fun q9_1 eq9_1 => ?_)
  show Rn K _ 0 0 _ 12 [(0, .ref (kB K + 5)), (1, vI x1)] [] (Zw (kE K) lt (bS b 5 q9_1) c ms rd m P)
  refine r_aload_n (pc := 12) X 0 dX0_reachFrom_12 rfl rfl ?_
  refine r_get (pc := 13) (v := .ref (kB K + 9)) X 5 4 inX0 rfl rfl (by decide) tf_X0_21 rfl dX0_reachFrom_13 ?_
  refine r_iconst (pc := 16) X 0 dX0_reachFrom_16 (by decide) ?_
  refine r_iload_n (pc := 17) X 1 dX0_reachFrom_17 rfl rfl ?_
  refine r_iast (pc := 18) (f := b 4) (ws' := (Zw (kE K) lt (bS (bS b 4 (aS (b 4) 0 x1)) 5 q9_1) c ms rd m P)) X 9 (by decide) zl_3280 rfl rfl dX0_reachFrom_18 ?_
  refine r_aload_n (pc := 19) X 0 dX0_reachFrom_19 rfl rfl ?_
  refine r_get (pc := 20) (v := .ref (kB K + 10)) X 5 5 inX0 rfl rfl (by decide) tf_X0_24 rfl dX0_reachFrom_20 ?_
  refine r_iload_n (pc := 23) X 1 dX0_reachFrom_23 rfl rfl ?_
  refine r_iconst (pc := 24) X 1 dX0_reachFrom_24 (by decide) ?_
  refine r_ckA (fun h2 => ?_)
  refine r_iast (pc := 25) (f := q9_1) (ws' := (Zw (kE K) lt (bS (bS b 4 (aS (b 4) 0 x1)) 5 (aS q9_1 x1 1)) c ms rd m P)) X 10 h2 zl_3280 rfl rfl dX0_reachFrom_25 ?_
  refine r_iconst (pc := 26) X 1 dX0_reachFrom_26 (by decide) ?_
  refine r_istore_n (pc := 27) (lv' := [(0, .ref (kB K + 5)), (1, vI x1), (2, vI 1)]) X [1, 2, 0] dX0_reachFrom_27 rfl (by decide) rfl ?_
  refine r_iconst (pc := 28) X 0 dX0_reachFrom_28 (by decide) ?_
  refine r_istore_n (pc := 29) (lv' := [(0, .ref (kB K + 5)), (1, vI x1), (2, vI 1), (3, vI 0)]) X [1, 2, 3, 0] dX0_reachFrom_29 rfl (by decide) rfl ?_
  refine r_sub [0, 2, 3] rfl ?_
  refine t_X0_reachFrom_L30 N lt b c ms rd m P   K X _ ?_ N 1 0 (bS (bS b 4 (aS (b 4) 0 x1)) 5 (aS q9_1 x1 1))
  intro x2_30 b_30
  refine r_iload_n (pc := 123) X 0 dX0_reachFrom_123 rfl rfl ?_
  exact r_iret (pc := 124) X rfl rfl (by decide) dX0_reachFrom_124
theorem c_X0_reachFrom (N : Nat) (lt b c ms rd m : Bd) (P : PL) (x1 : Int) (l : Launch) (D : va_G) (E : ET) (a : Int × Bd) (ha : f_X0_reachFrom N b x1 = some a) : Ct l yX0_reachFrom (Cond.code yX0_reachFrom cX0_reachFrom 8 (some .int) :: lw_g) ({ frames := 2, cells := 0, slots := 0, locals := 43 } : Room) D E [.ref (E.2.2.2 + 5), vI x1] (Zw E lt b c ms rd m P) (Zw E lt a.2 c ms rd m P) (some (vI a.1)) :=
  ct_of (av := fun E => [.ref (E.2.2.2 + 5), vI x1]) (W0 := fun E => Zw E lt b c ms rd m P) (W1 := fun E (a : Int × Bd) => Zw E lt a.2 c ms rd m P) (rw := fun E a => some (vI a.1)) (by decide) rfl (fun E => Zw_d E lt b c ms rd m P) (fun E => by simp [lg_sl, z_cat, z_catR, z_catI, z_catL]) (fun K X => r_lv (by simp [lv_args, z_cat, z_catR, z_catI, z_catL]) (t_X0_reachFrom N lt b c ms rd m P x1 K X)) l D E a ha
abbrev Q_X0_groupOfPart (K : KT) (lt b c ms rd m : Bd) (P : PL) : (Int) → State → Prop := Qm K ({ frames := 1, cells := 0, slots := 0, locals := 22 } : Room) (fun a : Int => Zw (kE K) lt b c ms rd m P) (fun a => some (vI a))
set_option maxRecDepth 100000 in
set_option maxHeartbeats 4000000 in
theorem t_X0_groupOfPart (N : Nat) (lt b c ms rd m : Bd) (P : PL) (x1 x2 : Int) (K : KT) (X : Kok K cX0_groupOfPart yX0_groupOfPart.cls lw_g ({ frames := 1, cells := 0, slots := 0, locals := 22 } : Room) (some .int) 3) : Rn K (Q_X0_groupOfPart K lt b c ms rd m P) 0 0 (f_X0_groupOfPart b x1 x2) 0 [(0, .ref (kB K + 5)), (1, vI x1), (2, vI x2)] [] (Zw (kE K) lt b c ms rd m P) := by
  unfold f_X0_groupOfPart
  refine r_iload_n (pc := 0) X 2 dX0_groupOfPart_0 rfl rfl ?_
  refine r_aload_n (pc := 1) X 0 dX0_groupOfPart_1 rfl rfl ?_
  refine r_get (pc := 2) (v := .ref (kB K + 6)) X 5 0 inX0 rfl rfl (by decide) tf_X0_9 rfl dX0_groupOfPart_2 ?_
  refine r_iload_n (pc := 5) X 1 dX0_groupOfPart_5 rfl rfl ?_
  refine r_ckA (fun h1 => ?_)
  refine r_iald (pc := 6) (f := b 0) X 6 h1 zl_3280 rfl dX0_groupOfPart_6 ?_
  refine r_callN (pc := 7) (As := [vI (b 0 x1)]) (rest := [vI x2]) (W' := fun q7_2 => (Zw (kE K) lt b c ms rd m P)) (rv := fun q7_2 => some (vI q7_2)) X dX0_groupOfPart_7 rfl (fun a ha => c_X5_partsOf N lt b c ms rd m P (b 0 x1) K.1.2.1 K.2.2.1.1 (kE K) a ha) (fun a => Zw_d _ _ _ _ _ _ _ _) (gd_c tc_X5_partsOf) (by decide) tt_X5_partsOf tn_RX5 rfl (n := 1) (by decide) rfl (by decide) (by simp [z_cat, z_catR, z_catI, z_catL]) (fun q7_2 eq7_2 => ?_)
  show Rn K _ 0 0 _ 10 [(0, .ref (kB K + 5)), (1, vI x1), (2, vI x2)] [vI q7_2, vI x2] (Zw (kE K) lt b c ms rd m P)
  refine r_ck1 (fun h3 => ?_)
  refine r_ck1 (fun h4 => ?_)
  refine r_icmp_ge (pc := 10) X h3 h4 dX0_groupOfPart_10 (tgt := 27) (by decide) (fun h5 => ?_) (fun h5 => ?_)
  · refine r_iconst (pc := 27) X 0 dX0_groupOfPart_27 (by decide) ?_
    exact r_iret (pc := 28) X rfl rfl (by decide) dX0_groupOfPart_28
  · refine r_aload_n (pc := 13) X 0 dX0_groupOfPart_13 rfl rfl ?_
    refine r_get (pc := 14) (v := .ref (kB K + 11)) X 5 6 inX0 rfl rfl (by decide) tf_X0_27 rfl dX0_groupOfPart_14 ?_
    refine r_aload_n (pc := 17) X 0 dX0_groupOfPart_17 rfl rfl ?_
    refine r_iload_n (pc := 18) X 1 dX0_groupOfPart_18 rfl rfl ?_
    refine r_iload_n (pc := 19) X 2 dX0_groupOfPart_19 rfl rfl ?_
    refine r_callV (pc := 20) (q0 := 5) (ci := 0) (As := [vI x1, vI x2]) (rest := [.ref (kB K + 11)]) (W' := fun q20_6 => (Zw (kE K) lt b c ms rd m P)) (rv := fun q20_6 => some (vI q20_6)) X dX0_groupOfPart_20 rfl (fun a ha => c_X0_linked N lt b c ms rd m P x1 x2 K.1.2.1 K.2.2.1.1 (kE K) a ha) (fun a => Zw_d _ _ _ _ _ _ _ _) gd_X0_113 rfl (n := 2) (by decide) rfl (by decide) rfl rfl rfl (by simp [z_cat, z_catR, z_catI, z_catL]) (fun q20_6 eq20_6 => ?_)
    show Rn K _ 0 0 _ 23 [(0, .ref (kB K + 5)), (1, vI x1), (2, vI x2)] [vI q20_6, .ref (kB K + 11)] (Zw (kE K) lt b c ms rd m P)
    refine r_ckA (fun h7 => ?_)
    refine r_iald (pc := 23) (f := b 6) X 11 h7 zl_3280 rfl dX0_groupOfPart_23 ?_
    refine r_goto (pc := 24) X dX0_groupOfPart_24 (tgt := 28) (by decide) ?_
    exact r_iret (pc := 28) X rfl rfl (by decide) dX0_groupOfPart_28
theorem c_X0_groupOfPart (N : Nat) (lt b c ms rd m : Bd) (P : PL) (x1 x2 : Int) (l : Launch) (D : va_G) (E : ET) (a : Int) (ha : f_X0_groupOfPart b x1 x2 = some a) : Ct l yX0_groupOfPart (Cond.code yX0_groupOfPart cX0_groupOfPart 3 (some .int) :: lw_g) ({ frames := 1, cells := 0, slots := 0, locals := 22 } : Room) D E [.ref (E.2.2.2 + 5), vI x1, vI x2] (Zw E lt b c ms rd m P) (Zw E lt b c ms rd m P) (some (vI a)) :=
  ct_of (av := fun E => [.ref (E.2.2.2 + 5), vI x1, vI x2]) (W0 := fun E => Zw E lt b c ms rd m P) (W1 := fun E (a : Int) => Zw E lt b c ms rd m P) (rw := fun E a => some (vI a)) (by decide) rfl (fun E => Zw_d E lt b c ms rd m P) (fun E => by simp [lg_sl, z_cat, z_catR, z_catI, z_catL]) (fun K X => r_lv (by simp [lv_args, z_cat, z_catR, z_catI, z_catL]) (t_X0_groupOfPart N lt b c ms rd m P x1 x2 K X)) l D E a ha
abbrev Q_X0_signatureOf (K : KT) (lt b c ms rd m : Bd) (P : PL) : (Int) → State → Prop := Qm K ({ frames := 2, cells := 0, slots := 0, locals := 44 } : Room) (fun a : Int => Zw (kE K) lt b c ms rd m P) (fun a => some (vI a))
set_option maxRecDepth 100000 in
set_option maxHeartbeats 4000000 in
theorem t_X0_signatureOf (N : Nat) (lt b c ms rd m : Bd) (P : PL) (x1 : Int) (K : KT) (X : Kok K cX0_signatureOf yX0_signatureOf.cls lw_g ({ frames := 2, cells := 0, slots := 0, locals := 44 } : Room) (some .int) 4) : Rn K (Q_X0_signatureOf K lt b c ms rd m P) 0 0 (f_X0_signatureOf b x1) 0 [(0, .ref (kB K + 5)), (1, vI x1)] [] (Zw (kE K) lt b c ms rd m P) := by
  unfold f_X0_signatureOf
  refine r_aload_n (pc := 0) X 0 dX0_signatureOf_0 rfl rfl ?_
  refine r_iload_n (pc := 1) X 1 dX0_signatureOf_1 rfl rfl ?_
  refine r_iconst (pc := 2) X 0 dX0_signatureOf_2 (by decide) ?_
  refine r_callV (pc := 3) (q0 := 5) (ci := 0) (As := [vI x1, vI 0]) (rest := []) (W' := fun q3_1 => (Zw (kE K) lt b c ms rd m P)) (rv := fun q3_1 => some (vI q3_1)) X dX0_signatureOf_3 rfl (fun a ha => c_X0_groupOfPart N lt b c ms rd m P x1 0 K.1.2.1 K.2.2.1.1 (kE K) a ha) (fun a => Zw_d _ _ _ _ _ _ _ _) gd_X0_119 rfl (n := 2) (by decide) rfl (by decide) rfl rfl rfl (Nat.zero_le _) (fun q3_1 eq3_1 => ?_)
  show Rn K _ 0 0 _ 6 [(0, .ref (kB K + 5)), (1, vI x1)] [vI q3_1] (Zw (kE K) lt b c ms rd m P)
  refine r_istore_n (pc := 6) (lv' := [(0, .ref (kB K + 5)), (1, vI x1), (2, vI q3_1)]) X [1, 2, 0] dX0_signatureOf_6 rfl (by decide) rfl ?_
  refine r_aload_n (pc := 7) X 0 dX0_signatureOf_7 rfl rfl ?_
  refine r_iload_n (pc := 8) X 1 dX0_signatureOf_8 rfl rfl ?_
  refine r_iconst (pc := 9) X 1 dX0_signatureOf_9 (by decide) ?_
  refine r_callV (pc := 10) (q0 := 5) (ci := 0) (As := [vI x1, vI 1]) (rest := []) (W' := fun q10_2 => (Zw (kE K) lt b c ms rd m P)) (rv := fun q10_2 => some (vI q10_2)) X dX0_signatureOf_10 rfl (fun a ha => c_X0_groupOfPart N lt b c ms rd m P x1 1 K.1.2.1 K.2.2.1.1 (kE K) a ha) (fun a => Zw_d _ _ _ _ _ _ _ _) gd_X0_119 rfl (n := 2) (by decide) rfl (by decide) rfl rfl rfl (Nat.zero_le _) (fun q10_2 eq10_2 => ?_)
  show Rn K _ 0 0 _ 13 [(0, .ref (kB K + 5)), (1, vI x1), (2, vI q3_1)] [vI q10_2] (Zw (kE K) lt b c ms rd m P)
  refine r_istore_n (pc := 13) (lv' := [(0, .ref (kB K + 5)), (1, vI x1), (2, vI q3_1), (3, vI q10_2)]) X [1, 2, 3, 0] dX0_signatureOf_13 rfl (by decide) rfl ?_
  refine r_aload_n (pc := 14) X 0 dX0_signatureOf_14 rfl rfl ?_
  refine r_get (pc := 15) (v := .ref (kB K + 6)) X 5 0 inX0 rfl rfl (by decide) tf_X0_9 rfl dX0_signatureOf_15 ?_
  refine r_iload_n (pc := 18) X 1 dX0_signatureOf_18 rfl rfl ?_
  refine r_ckA (fun h3 => ?_)
  refine r_iald (pc := 19) (f := b 0) X 6 h3 zl_3280 rfl dX0_signatureOf_19 ?_
  refine r_bipush (pc := 20) X 40 dX0_signatureOf_20 (by decide) ?_
  refine r_imul (pc := 22) X dX0_signatureOf_22 ?_
  refine r_iload_n (pc := 23) X 2 dX0_signatureOf_23 rfl rfl ?_
  refine r_iadd (pc := 24) X dX0_signatureOf_24 ?_
  refine r_bipush (pc := 25) X 40 dX0_signatureOf_25 (by decide) ?_
  refine r_imul (pc := 27) X dX0_signatureOf_27 ?_
  refine r_iload_n (pc := 28) X 3 dX0_signatureOf_28 rfl rfl ?_
  refine r_iadd (pc := 29) X dX0_signatureOf_29 ?_
  exact r_iret (pc := 30) X rfl rfl (by decide) dX0_signatureOf_30
theorem c_X0_signatureOf (N : Nat) (lt b c ms rd m : Bd) (P : PL) (x1 : Int) (l : Launch) (D : va_G) (E : ET) (a : Int) (ha : f_X0_signatureOf b x1 = some a) : Ct l yX0_signatureOf (Cond.code yX0_signatureOf cX0_signatureOf 4 (some .int) :: lw_g) ({ frames := 2, cells := 0, slots := 0, locals := 44 } : Room) D E [.ref (E.2.2.2 + 5), vI x1] (Zw E lt b c ms rd m P) (Zw E lt b c ms rd m P) (some (vI a)) :=
  ct_of (av := fun E => [.ref (E.2.2.2 + 5), vI x1]) (W0 := fun E => Zw E lt b c ms rd m P) (W1 := fun E (a : Int) => Zw E lt b c ms rd m P) (rw := fun E a => some (vI a)) (by decide) rfl (fun E => Zw_d E lt b c ms rd m P) (fun E => by simp [lg_sl, z_cat, z_catR, z_catI, z_catL]) (fun K X => r_lv (by simp [lv_args, z_cat, z_catR, z_catI, z_catL]) (t_X0_signatureOf N lt b c ms rd m P x1 K X)) l D E a ha
abbrev Q_X0_splitGroups (K : KT) (lt b c ms rd m : Bd) (P : PL) : (Int × Bd) → State → Prop := Qm K ({ frames := 3, cells := 0, slots := 0, locals := 67 } : Room) (fun a : Int × Bd => Zw (kE K) lt a.2 c ms rd m P) (fun a => some (vI a.1))
set_option maxRecDepth 100000 in
set_option maxHeartbeats 4000000 in
theorem t_X0_splitGroups_L7 (N : Nat) (lt b c ms rd m : Bd) (P : PL) (x1 : Int) (K : KT) (X : Kok K cX0_splitGroups yX0_splitGroups.cls lw_g ({ frames := 3, cells := 0, slots := 0, locals := 67 } : Room) (some .int) 7) (k : Int → Int → Bd → Option (Int × Bd)) (hk : ∀ (x2 : Int) (x3 : Int) (b1 : Bd), Rn K (Q_X0_splitGroups K lt b c ms rd m P) 0 0 (k x2 x3 b1) 95 [(0, .ref (kB K + 5)), (1, vI x1), (2, vI x2), (3, vI x3)] [] (Zw (kE K) lt b1 c ms rd m P)) : ∀ (n : Nat) (x2 : Int) (x3 : Int) (x4 : Int) (b1 : Bd), Rn K (Q_X0_splitGroups K lt b c ms rd m P) 0 0 (f_X0_splitGroups_L7 x1 k n x2 x3 x4 b1) 7 [(0, .ref (kB K + 5)), (1, vI x1), (2, vI x2), (3, vI x3), (4, vI x4)] [] (Zw (kE K) lt b1 c ms rd m P) := by
  intro n
  induction n with
  | zero =>
    intro x2 x3 x4 b1
    rw [f_X0_splitGroups_L7]
    exact r_none
  | succ n ih =>
    intro x2 x3 x4 b1
    rw [f_X0_splitGroups_L7]
    refine r_iload (pc := 7) X 4 dX0_splitGroups_7 rfl ?_
    refine r_iload_n (pc := 9) X 1 dX0_splitGroups_9 rfl rfl ?_
    refine r_ck1 (fun h1 => ?_)
    refine r_ck1 (fun h2 => ?_)
    refine r_icmp_ge (pc := 10) X h1 h2 dX0_splitGroups_10 (tgt := 95) (by decide) (fun h3 => ?_) (fun h3 => ?_)
    · refine r_sub [0, 1, 2, 3] rfl ?_
      exact hk x2 x3 b1
    · refine r_iload_n (pc := 13) X 3 dX0_splitGroups_13 rfl rfl ?_
      refine r_ck1 (fun h4 => ?_)
      refine r_ifne (pc := 14) X h4 dX0_splitGroups_14 (tgt := 95) (by decide) (fun h5 => ?_) (fun h5 => ?_)
      · refine r_sub [0, 1, 2, 3] rfl ?_
        exact hk x2 x3 b1
      · refine r_aload_n (pc := 17) X 0 dX0_splitGroups_17 rfl rfl ?_
        refine r_get (pc := 18) (v := .ref (kB K + 9)) X 5 4 inX0 rfl rfl (by decide) tf_X0_21 rfl dX0_splitGroups_18 ?_
        refine r_iload (pc := 21) X 4 dX0_splitGroups_21 rfl ?_
        refine r_ckA (fun h6 => ?_)
        refine r_iald (pc := 23) (f := b1 4) X 9 h6 zl_3280 rfl dX0_splitGroups_23 ?_
        refine r_istore (pc := 24) (lv' := [(0, .ref (kB K + 5)), (1, vI x1), (2, vI x2), (3, vI x3), (4, vI x4), (5, vI (b1 4 x4))]) X [1, 2, 3, 4, 5, 0] dX0_splitGroups_24 (by decide) rfl ?_
        refine r_aload_n (pc := 26) X 0 dX0_splitGroups_26 rfl rfl ?_
        refine r_iload (pc := 27) X 5 dX0_splitGroups_27 rfl ?_
        refine r_callV (pc := 29) (q0 := 5) (ci := 0) (As := [vI (b1 4 x4)]) (rest := []) (W' := fun q29_7 => (Zw (kE K) lt b1 c ms rd m P)) (rv := fun q29_7 => some (vI q29_7)) X dX0_splitGroups_29 rfl (fun a ha => c_X0_signatureOf N lt b1 c ms rd m P (b1 4 x4) K.1.2.1 K.2.2.1.1 (kE K) a ha) (fun a => Zw_d _ _ _ _ _ _ _ _) gd_X0_116 rfl (n := 1) (by decide) rfl (by decide) rfl rfl rfl (Nat.zero_le _) (fun q29_7 eq29_7 => ?_)
        show Rn K _ 0 0 _ 32 [(0, .ref (kB K + 5)), (1, vI x1), (2, vI x2), (3, vI x3), (4, vI x4), (5, vI (b1 4 x4))] [vI q29_7] (Zw (kE K) lt b1 c ms rd m P)
        refine r_istore (pc := 32) (lv' := [(0, .ref (kB K + 5)), (1, vI x1), (2, vI x2), (3, vI x3), (4, vI x4), (5, vI (b1 4 x4)), (6, vI q29_7)]) X [1, 2, 3, 4, 5, 6, 0] dX0_splitGroups_32 (by decide) rfl ?_
        refine r_aload_n (pc := 34) X 0 dX0_splitGroups_34 rfl rfl ?_
        refine r_get (pc := 35) (v := .ref (kB K + 13)) X 5 8 inX0 rfl rfl (by decide) tf_X0_33 rfl dX0_splitGroups_35 ?_
        refine r_iload (pc := 38) X 6 dX0_splitGroups_38 rfl ?_
        refine r_ckA (fun h8 => ?_)
        refine r_iald (pc := 40) (f := b1 8) X 13 h8 zl_11200 rfl dX0_splitGroups_40 ?_
        refine r_iconst (pc := 41) X (-1) dX0_splitGroups_41 (by decide) ?_
        refine r_jn (J := fun j75 => ∀ (x2_75 : Int) (x3_75 : Int) (b_75 : Bd), Rn K (Q_X0_splitGroups K lt b c ms rd m P) 0 0 (j75 x2_75 x3_75 b_75) 75 [(0, .ref (kB K + 5)), (1, vI x1), (2, vI x2_75), (3, vI x3_75), (4, vI x4), (5, vI (b1 4 x4)), (6, vI q29_7)] [] (Zw (kE K) lt b_75 c ms rd m P)) ?_ (fun j75 hj75 => ?_)
        · intro x2_75 x3_75 b_75
          refine r_aload_n (pc := 75) X 0 dX0_splitGroups_75 rfl rfl ?_
          refine r_get (pc := 76) (v := .ref (kB K + 12)) X 5 7 inX0 rfl rfl (by decide) tf_X0_30 rfl dX0_splitGroups_76 ?_
          refine r_iload (pc := 79) X 5 dX0_splitGroups_79 rfl ?_
          refine r_aload_n (pc := 81) X 0 dX0_splitGroups_81 rfl rfl ?_
          refine r_get (pc := 82) (v := .ref (kB K + 13)) X 5 8 inX0 rfl rfl (by decide) tf_X0_33 rfl dX0_splitGroups_82 ?_
          refine r_iload (pc := 85) X 6 dX0_splitGroups_85 rfl ?_
          refine r_iald (pc := 87) (f := b_75 8) X 13 h8 zl_11200 rfl dX0_splitGroups_87 ?_
          refine r_ckA (fun h9 => ?_)
          refine r_iast (pc := 88) (f := b_75 7) (ws' := (Zw (kE K) lt (bS b_75 7 (aS (b_75 7) (b1 4 x4) (b_75 8 q29_7))) c ms rd m P)) X 12 h9 zl_3280 rfl rfl dX0_splitGroups_88 ?_
          refine r_iinc (pc := 89) (lv' := [(0, .ref (kB K + 5)), (1, vI x1), (2, vI x2_75), (3, vI x3_75), (4, vI (x4 + 1)), (5, vI (b1 4 x4)), (6, vI q29_7)]) X 4 [1, 2, 3, 4, 0, 5, 6] dX0_splitGroups_89 rfl (by decide) rfl ?_
          refine r_goto (pc := 92) X dX0_splitGroups_92 (tgt := 7) (by decide) ?_
          refine r_sub [0, 1, 2, 3, 4] rfl ?_
          exact ih x2_75 x3_75 (x4 + 1) (bS b_75 7 (aS (b_75 7) (b1 4 x4) (b_75 8 q29_7)))
        refine r_ck1 (fun h10 => ?_)
        refine r_icmp_ne (pc := 42) X h10 (by decide) dX0_splitGroups_42 (tgt := 75) (by decide) (fun h11 => ?_) (fun h11 => ?_)
        · exact hj75 x2 x3 b1
        · refine r_iload_n (pc := 45) X 2 dX0_splitGroups_45 rfl rfl ?_
          refine r_bipush (pc := 46) X 40 dX0_splitGroups_46 (by decide) ?_
          refine r_ck1 (fun h12 => ?_)
          refine r_icmp_ge (pc := 48) X h12 (by decide) dX0_splitGroups_48 (tgt := 73) (by decide) (fun h13 => ?_) (fun h13 => ?_)
          · refine r_iconst (pc := 73) X 1 dX0_splitGroups_73 (by decide) ?_
            refine r_istore_n (pc := 74) (lv' := [(0, .ref (kB K + 5)), (1, vI x1), (2, vI x2), (3, vI 1), (4, vI x4), (5, vI (b1 4 x4)), (6, vI q29_7)]) X [1, 2, 3, 0, 4, 5, 6] dX0_splitGroups_74 rfl (by decide) rfl ?_
            exact hj75 x2 1 b1
          · refine r_aload_n (pc := 51) X 0 dX0_splitGroups_51 rfl rfl ?_
            refine r_get (pc := 52) (v := .ref (kB K + 13)) X 5 8 inX0 rfl rfl (by decide) tf_X0_33 rfl dX0_splitGroups_52 ?_
            refine r_iload (pc := 55) X 6 dX0_splitGroups_55 rfl ?_
            refine r_iload_n (pc := 57) X 2 dX0_splitGroups_57 rfl rfl ?_
            refine r_iast (pc := 58) (f := b1 8) (ws' := (Zw (kE K) lt (bS b1 8 (aS (b1 8) q29_7 x2)) c ms rd m P)) X 13 h8 zl_11200 rfl rfl dX0_splitGroups_58 ?_
            refine r_aload_n (pc := 59) X 0 dX0_splitGroups_59 rfl rfl ?_
            refine r_get (pc := 60) (v := .ref (kB K + 14)) X 5 9 inX0 rfl rfl (by decide) tf_X0_36 rfl dX0_splitGroups_60 ?_
            refine r_iload_n (pc := 63) X 2 dX0_splitGroups_63 rfl rfl ?_
            refine r_iload (pc := 64) X 6 dX0_splitGroups_64 rfl ?_
            refine r_ckA (fun h14 => ?_)
            refine r_iast (pc := 66) (f := b1 9) (ws' := (Zw (kE K) lt (bS (bS b1 8 (aS (b1 8) q29_7 x2)) 9 (aS (b1 9) x2 q29_7)) c ms rd m P)) X 14 h14 zl_40 rfl rfl dX0_splitGroups_66 ?_
            refine r_iinc (pc := 67) (lv' := [(0, .ref (kB K + 5)), (1, vI x1), (2, vI (x2 + 1)), (3, vI x3), (4, vI x4), (5, vI (b1 4 x4)), (6, vI q29_7)]) X 2 [1, 2, 0, 3, 4, 5, 6] dX0_splitGroups_67 rfl (by decide) rfl ?_
            refine r_goto (pc := 70) X dX0_splitGroups_70 (tgt := 75) (by decide) ?_
            exact hj75 (x2 + 1) x3 (bS (bS b1 8 (aS (b1 8) q29_7 x2)) 9 (aS (b1 9) x2 q29_7))
set_option maxRecDepth 100000 in
set_option maxHeartbeats 4000000 in
theorem t_X0_splitGroups_L98 (N : Nat) (lt b c ms rd m : Bd) (P : PL) (x1 x2 x3 : Int) (K : KT) (X : Kok K cX0_splitGroups yX0_splitGroups.cls lw_g ({ frames := 3, cells := 0, slots := 0, locals := 67 } : Room) (some .int) 7) (k : Bd → Option (Int × Bd)) (hk : ∀ (b1 : Bd), Rn K (Q_X0_splitGroups K lt b c ms rd m P) 0 0 (k b1) 123 [(0, .ref (kB K + 5)), (1, vI x1), (2, vI x2), (3, vI x3)] [] (Zw (kE K) lt b1 c ms rd m P)) : ∀ (n : Nat) (x4 : Int) (b1 : Bd), Rn K (Q_X0_splitGroups K lt b c ms rd m P) 0 0 (f_X0_splitGroups_L98 x1 x2 x3 k n x4 b1) 98 [(0, .ref (kB K + 5)), (1, vI x1), (2, vI x2), (3, vI x3), (4, vI x4)] [] (Zw (kE K) lt b1 c ms rd m P) := by
  intro n
  induction n with
  | zero =>
    intro x4 b1
    rw [f_X0_splitGroups_L98]
    exact r_none
  | succ n ih =>
    intro x4 b1
    rw [f_X0_splitGroups_L98]
    refine r_iload (pc := 98) X 4 dX0_splitGroups_98 rfl ?_
    refine r_iload_n (pc := 100) X 2 dX0_splitGroups_100 rfl rfl ?_
    refine r_ck1 (fun h15 => ?_)
    refine r_ck1 (fun h16 => ?_)
    refine r_icmp_ge (pc := 101) X h15 h16 dX0_splitGroups_101 (tgt := 123) (by decide) (fun h17 => ?_) (fun h17 => ?_)
    · refine r_sub [0, 1, 2, 3] rfl ?_
      exact hk b1
    · refine r_aload_n (pc := 104) X 0 dX0_splitGroups_104 rfl rfl ?_
      refine r_get (pc := 105) (v := .ref (kB K + 13)) X 5 8 inX0 rfl rfl (by decide) tf_X0_33 rfl dX0_splitGroups_105 ?_
      refine r_aload_n (pc := 108) X 0 dX0_splitGroups_108 rfl rfl ?_
      refine r_get (pc := 109) (v := .ref (kB K + 14)) X 5 9 inX0 rfl rfl (by decide) tf_X0_36 rfl dX0_splitGroups_109 ?_
      refine r_iload (pc := 112) X 4 dX0_splitGroups_112 rfl ?_
      refine r_ckA (fun h18 => ?_)
      refine r_iald (pc := 114) (f := b1 9) X 14 h18 zl_40 rfl dX0_splitGroups_114 ?_
      refine r_iconst (pc := 115) X (-1) dX0_splitGroups_115 (by decide) ?_
      refine r_ckA (fun h19 => ?_)
      refine r_iast (pc := 116) (f := b1 8) (ws' := (Zw (kE K) lt (bS b1 8 (aS (b1 8) (b1 9 x4) (-1))) c ms rd m P)) X 13 h19 zl_11200 rfl rfl dX0_splitGroups_116 ?_
      refine r_iinc (pc := 117) (lv' := [(0, .ref (kB K + 5)), (1, vI x1), (2, vI x2), (3, vI x3), (4, vI (x4 + 1))]) X 4 [1, 2, 3, 4, 0] dX0_splitGroups_117 rfl (by decide) rfl ?_
      refine r_goto (pc := 120) X dX0_splitGroups_120 (tgt := 98) (by decide) ?_
      exact ih (x4 + 1) (bS b1 8 (aS (b1 8) (b1 9 x4) (-1)))
set_option maxRecDepth 100000 in
set_option maxHeartbeats 4000000 in
theorem t_X0_splitGroups_L133 (N : Nat) (lt b c ms rd m : Bd) (P : PL) (x1 x2 : Int) (K : KT) (X : Kok K cX0_splitGroups yX0_splitGroups.cls lw_g ({ frames := 3, cells := 0, slots := 0, locals := 67 } : Room) (some .int) 7) (k : Bd → Option (Int × Bd)) (hk : ∀ (b1 : Bd), Rn K (Q_X0_splitGroups K lt b c ms rd m P) 0 0 (k b1) 169 [(2, vI x2)] [] (Zw (kE K) lt b1 c ms rd m P)) : ∀ (n : Nat) (x4 : Int) (b1 : Bd), Rn K (Q_X0_splitGroups K lt b c ms rd m P) 0 0 (f_X0_splitGroups_L133 x1 x2 k n x4 b1) 133 [(0, .ref (kB K + 5)), (1, vI x1), (2, vI x2), (4, vI x4)] [] (Zw (kE K) lt b1 c ms rd m P) := by
  intro n
  induction n with
  | zero =>
    intro x4 b1
    rw [f_X0_splitGroups_L133]
    exact r_none
  | succ n ih =>
    intro x4 b1
    rw [f_X0_splitGroups_L133]
    refine r_iload (pc := 133) X 3 dX0_splitGroups_133 rfl ?_
    refine r_iload_n (pc := 135) X 1 dX0_splitGroups_135 rfl rfl ?_
    refine r_ck1 (fun h22 => ?_)
    refine r_ck1 (fun h23 => ?_)
    refine r_icmp_ge (pc := 136) X h22 h23 dX0_splitGroups_136 (tgt := 169) (by decide) (fun h24 => ?_) (fun h24 => ?_)
    · refine r_sub [2] rfl ?_
      exact hk b1
    · refine r_aload_n (pc := 139) X 0 dX0_splitGroups_139 rfl rfl ?_
      refine r_get (pc := 140) (v := .ref (kB K + 11)) X 5 6 inX0 rfl rfl (by decide) tf_X0_27 rfl dX0_splitGroups_140 ?_
      refine r_aload_n (pc := 143) X 0 dX0_splitGroups_143 rfl rfl ?_
      refine r_get (pc := 144) (v := .ref (kB K + 9)) X 5 4 inX0 rfl rfl (by decide) tf_X0_21 rfl dX0_splitGroups_144 ?_
      refine r_iload (pc := 147) X 3 dX0_splitGroups_147 rfl ?_
      refine r_ckA (fun h25 => ?_)
      refine r_iald (pc := 149) (f := b1 4) X 9 h25 zl_3280 rfl dX0_splitGroups_149 ?_
      refine r_aload_n (pc := 150) X 0 dX0_splitGroups_150 rfl rfl ?_
      refine r_get (pc := 151) (v := .ref (kB K + 12)) X 5 7 inX0 rfl rfl (by decide) tf_X0_30 rfl dX0_splitGroups_151 ?_
      refine r_aload_n (pc := 154) X 0 dX0_splitGroups_154 rfl rfl ?_
      refine r_get (pc := 155) (v := .ref (kB K + 9)) X 5 4 inX0 rfl rfl (by decide) tf_X0_21 rfl dX0_splitGroups_155 ?_
      refine r_iload (pc := 158) X 3 dX0_splitGroups_158 rfl ?_
      refine r_iald (pc := 160) (f := b1 4) X 9 h25 zl_3280 rfl dX0_splitGroups_160 ?_
      refine r_ckA (fun h26 => ?_)
      refine r_iald (pc := 161) (f := b1 7) X 12 h26 zl_3280 rfl dX0_splitGroups_161 ?_
      refine r_iast (pc := 162) (f := b1 6) (ws' := (Zw (kE K) lt (bS b1 6 (aS (b1 6) (b1 4 x4) (b1 7 (b1 4 x4)))) c ms rd m P)) X 11 h26 zl_3280 rfl rfl dX0_splitGroups_162 ?_
      refine r_iinc (pc := 163) (lv' := [(0, .ref (kB K + 5)), (1, vI x1), (2, vI x2), (4, vI (x4 + 1))]) X 3 [1, 2, 3, 0] dX0_splitGroups_163 rfl (by decide) rfl ?_
      refine r_goto (pc := 166) X dX0_splitGroups_166 (tgt := 133) (by decide) ?_
      exact ih (x4 + 1) (bS b1 6 (aS (b1 6) (b1 4 x4) (b1 7 (b1 4 x4))))
set_option maxRecDepth 100000 in
set_option maxHeartbeats 4000000 in
theorem t_X0_splitGroups (N : Nat) (lt b c ms rd m : Bd) (P : PL) (x1 : Int) (K : KT) (X : Kok K cX0_splitGroups yX0_splitGroups.cls lw_g ({ frames := 3, cells := 0, slots := 0, locals := 67 } : Room) (some .int) 7) : Rn K (Q_X0_splitGroups K lt b c ms rd m P) 0 0 (f_X0_splitGroups N b x1) 0 [(0, .ref (kB K + 5)), (1, vI x1)] [] (Zw (kE K) lt b c ms rd m P) := by
  unfold f_X0_splitGroups
  refine r_iconst (pc := 0) X 0 dX0_splitGroups_0 (by decide) ?_
  refine r_istore_n (pc := 1) (lv' := [(0, .ref (kB K + 5)), (1, vI x1), (2, vI 0)]) X [1, 2, 0] dX0_splitGroups_1 rfl (by decide) rfl ?_
  refine r_iconst (pc := 2) X 0 dX0_splitGroups_2 (by decide) ?_
  refine r_istore_n (pc := 3) (lv' := [(0, .ref (kB K + 5)), (1, vI x1), (2, vI 0), (3, vI 0)]) X [1, 2, 3, 0] dX0_splitGroups_3 rfl (by decide) rfl ?_
  refine r_iconst (pc := 4) X 0 dX0_splitGroups_4 (by decide) ?_
  refine r_istore (pc := 5) (lv' := [(0, .ref (kB K + 5)), (1, vI x1), (2, vI 0), (3, vI 0), (4, vI 0)]) X [1, 2, 3, 4, 0] dX0_splitGroups_5 (by decide) rfl ?_
  refine t_X0_splitGroups_L7 N lt b c ms rd m P  x1 K X _ ?_ N 0 0 0 b
  intro x2_7 x3_7 b_7
  refine r_iconst (pc := 95) X 0 dX0_splitGroups_95 (by decide) ?_
  refine r_istore (pc := 96) (lv' := [(0, .ref (kB K + 5)), (1, vI x1), (2, vI x2_7), (3, vI x3_7), (4, vI 0)]) X [1, 2, 3, 4, 0] dX0_splitGroups_96 (by decide) rfl ?_
  refine t_X0_splitGroups_L98 N lt b c ms rd m P  x1 x2_7 x3_7 K X _ ?_ N 0 b_7
  intro b_98
  refine r_iload_n (pc := 123) X 3 dX0_splitGroups_123 rfl rfl ?_
  refine r_ck1 (fun h20 => ?_)
  refine r_ifeq (pc := 124) X h20 dX0_splitGroups_124 (tgt := 130) (by decide) (fun h21 => ?_) (fun h21 => ?_)
  · refine r_iconst (pc := 130) X 0 dX0_splitGroups_130 (by decide) ?_
    refine r_istore (pc := 131) (lv' := [(0, .ref (kB K + 5)), (1, vI x1), (2, vI x2_7), (3, vI x3_7), (4, vI 0)]) X [1, 2, 3, 4, 0] dX0_splitGroups_131 (by decide) rfl ?_
    refine r_sub [0, 1, 2, 4] rfl ?_
    refine t_X0_splitGroups_L133 N lt b c ms rd m P  x1 x2_7 K X _ ?_ N 0 b_98
    intro b_133
    refine r_iload_n (pc := 169) X 0 dX0_splitGroups_169 rfl rfl ?_
    exact r_iret (pc := 170) X rfl rfl (by decide) dX0_splitGroups_170
  · refine r_bipush (pc := 127) X (-4) dX0_splitGroups_127 (by decide) ?_
    exact r_iret (pc := 129) X rfl rfl (by decide) dX0_splitGroups_129
theorem c_X0_splitGroups (N : Nat) (lt b c ms rd m : Bd) (P : PL) (x1 : Int) (l : Launch) (D : va_G) (E : ET) (a : Int × Bd) (ha : f_X0_splitGroups N b x1 = some a) : Ct l yX0_splitGroups (Cond.code yX0_splitGroups cX0_splitGroups 7 (some .int) :: lw_g) ({ frames := 3, cells := 0, slots := 0, locals := 67 } : Room) D E [.ref (E.2.2.2 + 5), vI x1] (Zw E lt b c ms rd m P) (Zw E lt a.2 c ms rd m P) (some (vI a.1)) :=
  ct_of (av := fun E => [.ref (E.2.2.2 + 5), vI x1]) (W0 := fun E => Zw E lt b c ms rd m P) (W1 := fun E (a : Int × Bd) => Zw E lt a.2 c ms rd m P) (rw := fun E a => some (vI a.1)) (by decide) rfl (fun E => Zw_d E lt b c ms rd m P) (fun E => by simp [lg_sl, z_cat, z_catR, z_catI, z_catL]) (fun K X => r_lv (by simp [lv_args, z_cat, z_catR, z_catI, z_catL]) (t_X0_splitGroups N lt b c ms rd m P x1 K X)) l D E a ha
abbrev Q_X0_smallest (K : KT) (lt b c ms rd m : Bd) (P : PL) : (Int × Bd × PL) → State → Prop := Qm K ({ frames := 4, cells := 2, slots := 122, locals := 93 } : Room) (fun a : Int × Bd × PL => Zw (kE K) lt a.2.1 c ms rd m a.2.2) (fun a => some (vG (kB K) a.1))
set_option maxRecDepth 100000 in
set_option maxHeartbeats 4000000 in
theorem t_X0_smallest_L22 (N : Nat) (lt b c ms rd m : Bd) (P : PL) (P1 : PL) (x2 : Int) (K : KT) (X : Kok K cX0_smallest yX0_smallest.cls lw_g ({ frames := 4, cells := 2, slots := 122, locals := 93 } : Room) (some (.object "LoopTypes$Graph")) 6) (k : Bd → Option (Int × Bd × PL)) (hk : ∀ (b1 : Bd), Rn K (Q_X0_smallest K lt b c ms rd m P) 0 0 (k b1) 45 [(0, .ref (kB K + 5)), (2, vI x2)] [] (Zw (kE K) lt b1 c ms rd m P1)) : ∀ (n : Nat) (x3 : Int) (b1 : Bd), Rn K (Q_X0_smallest K lt b c ms rd m P) 0 0 (f_X0_smallest_L22 x2 k n x3 b1) 22 [(0, .ref (kB K + 5)), (2, vI x2), (3, vI x3)] [] (Zw (kE K) lt b1 c ms rd m P1) := by
  intro n
  induction n with
  | zero =>
    intro x3 b1
    rw [f_X0_smallest_L22]
    exact r_none
  | succ n ih =>
    intro x3 b1
    rw [f_X0_smallest_L22]
    refine r_iload_n (pc := 22) X 2 dX0_smallest_22 rfl rfl ?_
    refine r_iload_n (pc := 23) X 1 dX0_smallest_23 rfl rfl ?_
    refine r_ck1 (fun h6 => ?_)
    refine r_ck1 (fun h7 => ?_)
    refine r_icmp_ge (pc := 24) X h6 h7 dX0_smallest_24 (tgt := 45) (by decide) (fun h8 => ?_) (fun h8 => ?_)
    · refine r_sub [0, 1] rfl ?_
      exact hk b1
    · refine r_aload_n (pc := 27) X 0 dX0_smallest_27 rfl rfl ?_
      refine r_get (pc := 28) (v := .ref (kB K + 11)) X 5 6 inX0 rfl rfl (by decide) tf_X0_27 rfl dX0_smallest_28 ?_
      refine r_aload_n (pc := 31) X 0 dX0_smallest_31 rfl rfl ?_
      refine r_get (pc := 32) (v := .ref (kB K + 9)) X 5 4 inX0 rfl rfl (by decide) tf_X0_21 rfl dX0_smallest_32 ?_
      refine r_iload_n (pc := 35) X 2 dX0_smallest_35 rfl rfl ?_
      refine r_ckA (fun h9 => ?_)
      refine r_iald (pc := 36) (f := b1 4) X 9 h9 zl_3280 rfl dX0_smallest_36 ?_
      refine r_iconst (pc := 37) X 0 dX0_smallest_37 (by decide) ?_
      refine r_ckA (fun h10 => ?_)
      refine r_iast (pc := 38) (f := b1 6) (ws' := (Zw (kE K) lt (bS b1 6 (aS (b1 6) (b1 4 x3) 0)) c ms rd m P1)) X 11 h10 zl_3280 rfl rfl dX0_smallest_38 ?_
      refine r_iinc (pc := 39) (lv' := [(0, .ref (kB K + 5)), (2, vI x2), (3, vI (x3 + 1))]) X 2 [1, 2, 0] dX0_smallest_39 rfl (by decide) rfl ?_
      refine r_goto (pc := 42) X dX0_smallest_42 (tgt := 22) (by decide) ?_
      exact ih (x3 + 1) (bS b1 6 (aS (b1 6) (b1 4 x3) 0))
set_option maxRecDepth 100000 in
set_option maxHeartbeats 4000000 in
theorem t_X0_smallest_L50 (N : Nat) (lt b c ms rd m : Bd) (P : PL) (P1 : PL) (x2 : Int) (K : KT) (X : Kok K cX0_smallest yX0_smallest.cls lw_g ({ frames := 4, cells := 2, slots := 122, locals := 93 } : Room) (some (.object "LoopTypes$Graph")) 6) (k : Int → Bd → Option (Int × Bd × PL)) (hk : ∀ (x3 : Int) (b1 : Bd), Rn K (Q_X0_smallest K lt b c ms rd m P) 0 0 (k x3 b1) 91 [(0, .ref (kB K + 5)), (2, vI x2), (3, vI x3)] [] (Zw (kE K) lt b1 c ms rd m P1)) : ∀ (n : Nat) (x3 : Int) (x4 : Int) (b1 : Bd), Rn K (Q_X0_smallest K lt b c ms rd m P) 0 0 (f_X0_smallest_L50 N P1 x2 k n x3 x4 b1) 50 [(0, .ref (kB K + 5)), (2, vI x2), (3, vI x3), (4, vI x4)] [] (Zw (kE K) lt b1 c ms rd m P1) := by
  intro n
  induction n with
  | zero =>
    intro x3 x4 b1
    rw [f_X0_smallest_L50]
    exact r_none
  | succ n ih =>
    intro x3 x4 b1
    rw [f_X0_smallest_L50]
    refine r_iload (pc := 50) X 3 dX0_smallest_50 rfl ?_
    refine r_bipush (pc := 52) X 40 dX0_smallest_52 (by decide) ?_
    refine r_ck1 (fun h11 => ?_)
    refine r_icmp_gt (pc := 54) X h11 (by decide) dX0_smallest_54 (tgt := 91) (by decide) (fun h12 => ?_) (fun h12 => ?_)
    · refine r_sub [0, 1, 2] rfl ?_
      exact hk x3 b1
    · refine r_aload_n (pc := 57) X 0 dX0_smallest_57 rfl rfl ?_
      refine r_iload_n (pc := 58) X 1 dX0_smallest_58 rfl rfl ?_
      refine r_callV (pc := 59) (q0 := 5) (ci := 0) (As := [vI x2]) (rest := []) (W' := fun q59_13 => (Zw (kE K) lt q59_13.2 c ms rd m P1)) (rv := fun q59_13 => some (vI q59_13.1)) X dX0_smallest_59 rfl (fun a ha => c_X0_splitGroups N lt b1 c ms rd m P1 x2 K.1.2.1 K.2.2.1.1 (kE K) a ha) (fun a => Zw_d _ _ _ _ _ _ _ _) gd_X0_99 rfl (n := 1) (by decide) rfl (by decide) rfl rfl rfl (Nat.zero_le _) (fun q59_13 eq59_13 => ?_)
      show Rn K _ 0 0 _ 62 [(0, .ref (kB K + 5)), (2, vI x2), (3, vI x3), (4, vI x4)] [vI q59_13.1] (Zw (kE K) lt q59_13.2 c ms rd m P1)
      refine r_istore (pc := 62) (lv' := [(0, .ref (kB K + 5)), (2, vI x2), (3, vI x3), (4, vI x4), (5, vI q59_13.1)]) X [1, 2, 3, 4, 0] dX0_smallest_62 (by decide) rfl ?_
      refine r_iload (pc := 64) X 4 dX0_smallest_64 rfl ?_
      refine r_bipush (pc := 66) X (-4) dX0_smallest_66 (by decide) ?_
      refine r_ck1 (fun h14 => ?_)
      refine r_icmp_ne (pc := 68) X h14 (by decide) dX0_smallest_68 (tgt := 73) (by decide) (fun h15 => ?_) (fun h15 => ?_)
      · refine r_iload (pc := 73) X 4 dX0_smallest_73 rfl ?_
        refine r_iload_n (pc := 75) X 2 dX0_smallest_75 rfl rfl ?_
        refine r_ck1 (fun h16 => ?_)
        refine r_icmp_ne (pc := 76) X h14 h16 dX0_smallest_76 (tgt := 82) (by decide) (fun h17 => ?_) (fun h17 => ?_)
        · refine r_iload (pc := 82) X 4 dX0_smallest_82 rfl ?_
          refine r_istore_n (pc := 84) (lv' := [(0, .ref (kB K + 5)), (2, vI x2), (3, vI q59_13.1), (4, vI x4), (5, vI q59_13.1)]) X [1, 2, 0, 3, 4] dX0_smallest_84 rfl (by decide) rfl ?_
          refine r_iinc (pc := 85) (lv' := [(0, .ref (kB K + 5)), (2, vI x2), (3, vI q59_13.1), (4, vI (x4 + 1)), (5, vI q59_13.1)]) X 3 [1, 2, 3, 0, 4] dX0_smallest_85 rfl (by decide) rfl ?_
          refine r_goto (pc := 88) X dX0_smallest_88 (tgt := 50) (by decide) ?_
          refine r_sub [0, 1, 2, 3] rfl ?_
          exact ih q59_13.1 (x4 + 1) q59_13.2
        · refine r_goto (pc := 79) X dX0_smallest_79 (tgt := 91) (by decide) ?_
          refine r_sub [0, 1, 2] rfl ?_
          exact hk x3 q59_13.2
      · refine r_gnull (pc := 71) (B := kB K) X dX0_smallest_71 ?_
        exact r_gret (pc := 72) X rfl rfl (by decide) dX0_smallest_72
set_option maxRecDepth 100000 in
set_option maxHeartbeats 4000000 in
theorem t_X0_smallest (N : Nat) (lt b c ms rd m : Bd) (P : PL) (x1 : Int) (K : KT) (X : Kok K cX0_smallest yX0_smallest.cls lw_g ({ frames := 4, cells := 2, slots := 122, locals := 93 } : Room) (some (.object "LoopTypes$Graph")) 6) : Rn K (Q_X0_smallest K lt b c ms rd m P) 0 0 (f_X0_smallest N b P x1) 0 [(0, .ref (kB K + 5)), (1, vI x1)] [] (Zw (kE K) lt b c ms rd m P) := by
  unfold f_X0_smallest
  refine r_iload_n (pc := 0) X 1 dX0_smallest_0 rfl rfl ?_
  refine r_ck1 (fun h1 => ?_)
  refine r_iflt (pc := 1) X h1 dX0_smallest_1 (tgt := 12) (by decide) (fun h2 => ?_) (fun h2 => ?_)
  · refine r_gnull (pc := 12) (B := kB K) X dX0_smallest_12 ?_
    exact r_gret (pc := 13) X rfl rfl (by decide) dX0_smallest_13
  · refine r_iload_n (pc := 4) X 1 dX0_smallest_4 rfl rfl ?_
    refine r_aload_n (pc := 5) X 0 dX0_smallest_5 rfl rfl ?_
    refine r_get (pc := 6) (v := vI (b 3 0)) X 5 3 inX0 rfl rfl (by decide) tf_X0_39 rfl dX0_smallest_6 ?_
    refine r_ck1 (fun h3 => ?_)
    refine r_icmp_lt (pc := 9) X h1 h3 dX0_smallest_9 (tgt := 14) (by decide) (fun h4 => ?_) (fun h4 => ?_)
    · refine r_aload_n (pc := 14) X 0 dX0_smallest_14 rfl rfl ?_
      refine r_iload_n (pc := 15) X 1 dX0_smallest_15 rfl rfl ?_
      refine r_callV (pc := 16) (q0 := 5) (ci := 0) (As := [vI x1]) (rest := []) (W' := fun q16_5 => (Zw (kE K) lt q16_5.2 c ms rd m P)) (rv := fun q16_5 => some (vI q16_5.1)) X dX0_smallest_16 rfl (fun a ha => c_X0_reachFrom N lt b c ms rd m P x1 K.1.2.1 K.2.2.1.1 (kE K) a ha) (fun a => Zw_d _ _ _ _ _ _ _ _) gd_X0_96 rfl (n := 1) (by decide) rfl (by decide) rfl rfl rfl (Nat.zero_le _) (fun q16_5 eq16_5 => ?_)
      show Rn K _ 0 0 _ 19 [(0, .ref (kB K + 5)), (1, vI x1)] [vI q16_5.1] (Zw (kE K) lt q16_5.2 c ms rd m P)
      refine r_istore_n (pc := 19) (lv' := [(0, .ref (kB K + 5)), (1, vI x1), (2, vI q16_5.1)]) X [1, 2, 0] dX0_smallest_19 rfl (by decide) rfl ?_
      refine r_iconst (pc := 20) X 0 dX0_smallest_20 (by decide) ?_
      refine r_istore_n (pc := 21) (lv' := [(0, .ref (kB K + 5)), (1, vI x1), (2, vI q16_5.1), (3, vI 0)]) X [1, 2, 3, 0] dX0_smallest_21 rfl (by decide) rfl ?_
      refine r_sub [0, 2, 3] rfl ?_
      refine t_X0_smallest_L22 N lt b c ms rd m P P q16_5.1 K X _ ?_ N 0 q16_5.2
      intro b_22
      refine r_iconst (pc := 45) X 1 dX0_smallest_45 (by decide) ?_
      refine r_istore_n (pc := 46) (lv' := [(0, .ref (kB K + 5)), (2, vI q16_5.1), (3, vI 1)]) X [1, 2, 0] dX0_smallest_46 rfl (by decide) rfl ?_
      refine r_iconst (pc := 47) X 0 dX0_smallest_47 (by decide) ?_
      refine r_istore (pc := 48) (lv' := [(0, .ref (kB K + 5)), (2, vI q16_5.1), (3, vI 1), (4, vI 0)]) X [1, 2, 3, 0] dX0_smallest_48 (by decide) rfl ?_
      refine t_X0_smallest_L50 N lt b c ms rd m P P q16_5.1 K X _ ?_ N 1 0 b_22
      intro x3_50 b_50
      refine r_aload_n (pc := 91) X 0 dX0_smallest_91 rfl rfl ?_
      refine r_iload_n (pc := 92) X 1 dX0_smallest_92 rfl rfl ?_
      refine r_iload_n (pc := 93) X 2 dX0_smallest_93 rfl rfl ?_
      refine r_callV (pc := 94) (q0 := 5) (ci := 0) (As := [vI q16_5.1, vI x3_50]) (rest := []) (W' := fun q94_18 => (Zw (kE K) lt b_50 c ms rd m q94_18.2)) (rv := fun q94_18 => some (vG (kB K) q94_18.1)) X dX0_smallest_94 rfl (fun a ha => c_X0_writeDown N lt b_50 c ms rd m P q16_5.1 x3_50 K.1.2.1 K.2.2.1.1 (kE K) a ha) (fun a => Zw_d _ _ _ _ _ _ _ _) gd_X0_102 rfl (n := 2) (by decide) rfl (by decide) rfl rfl rfl (Nat.zero_le _) (fun q94_18 eq94_18 => ?_)
      show Rn K _ 2 122 _ 97 [(0, .ref (kB K + 5)), (2, vI q16_5.1), (3, vI x3_50)] [vG (kB K) q94_18.1] (Zw (kE K) lt b_50 c ms rd m q94_18.2)
      exact r_gret (pc := 97) X rfl rfl (by decide) dX0_smallest_97
    · refine r_gnull (pc := 12) (B := kB K) X dX0_smallest_12 ?_
      exact r_gret (pc := 13) X rfl rfl (by decide) dX0_smallest_13
theorem c_X0_smallest (N : Nat) (lt b c ms rd m : Bd) (P : PL) (x1 : Int) (l : Launch) (D : va_G) (E : ET) (a : Int × Bd × PL) (ha : f_X0_smallest N b P x1 = some a) : Ct l yX0_smallest (Cond.code yX0_smallest cX0_smallest 6 (some (.object "LoopTypes$Graph")) :: lw_g) ({ frames := 4, cells := 2, slots := 122, locals := 93 } : Room) D E [.ref (E.2.2.2 + 5), vI x1] (Zw E lt b c ms rd m P) (Zw E lt a.2.1 c ms rd m a.2.2) (some (vG E.2.2.2 a.1)) :=
  ct_of (av := fun E => [.ref (E.2.2.2 + 5), vI x1]) (W0 := fun E => Zw E lt b c ms rd m P) (W1 := fun E (a : Int × Bd × PL) => Zw E lt a.2.1 c ms rd m a.2.2) (rw := fun E a => some (vG E.2.2.2 a.1)) (by decide) rfl (fun E => Zw_d E lt b c ms rd m P) (fun E => by simp [lg_sl, z_cat, z_catR, z_catI, z_catL]) (fun K X => r_lv (by simp [lv_args, z_cat, z_catR, z_catI, z_catL]) (t_X0_smallest N lt b c ms rd m P x1 K X)) l D E a ha
abbrev Q_X0_replaced (K : KT) (lt b c ms rd m : Bd) (P : PL) : (Int × Bd × PL) → State → Prop := Qm K ({ frames := 5, cells := 2, slots := 122, locals := 118 } : Room) (fun a : Int × Bd × PL => Zw (kE K) lt a.2.1 c ms rd m a.2.2) (fun a => some (vG (kB K) a.1))
set_option maxRecDepth 100000 in
set_option maxHeartbeats 4000000 in
theorem t_X0_replaced_L40 (N : Nat) (lt b c ms rd m : Bd) (P : PL) (P1 : PL) (x1 x2 x4 x5 x6 : Int) (K : KT) (X : Kok K cX0_replaced yX0_replaced.cls lw_g ({ frames := 5, cells := 2, slots := 122, locals := 118 } : Room) (some (.object "LoopTypes$Graph")) 8) (k : Bd → Option (Int × Bd × PL)) (hk : ∀ (b1 : Bd), Rn K (Q_X0_replaced K lt b c ms rd m P) 0 0 (k b1) 75 [(0, .ref (kB K + 5)), (1, vG (kB K) x1), (2, vI x2), (4, vI x4), (5, vI x5)] [] (Zw (kE K) lt b1 c ms rd m P1)) : ∀ (n : Nat) (x7 : Int) (b1 : Bd), Rn K (Q_X0_replaced K lt b c ms rd m P) 0 0 (f_X0_replaced_L40 P1 x1 x2 x4 x5 x6 k n x7 b1) 40 [(0, .ref (kB K + 5)), (1, vG (kB K) x1), (2, vI x2), (4, vI x4), (5, vI x5), (6, vI x6), (7, vI x7)] [] (Zw (kE K) lt b1 c ms rd m P1) := by
  intro n
  induction n with
  | zero =>
    intro x7 b1
    rw [f_X0_replaced_L40]
    exact r_none
  | succ n ih =>
    intro x7 b1
    rw [f_X0_replaced_L40]
    refine r_iload (pc := 40) X 6 dX0_replaced_40 rfl ?_
    refine r_iload (pc := 42) X 5 dX0_replaced_42 rfl ?_
    refine r_ck1 (fun h9 => ?_)
    refine r_ck1 (fun h10 => ?_)
    refine r_icmp_ge (pc := 44) X h9 h10 dX0_replaced_44 (tgt := 75) (by decide) (fun h11 => ?_) (fun h11 => ?_)
    · refine r_sub [0, 1, 2, 3, 4] rfl ?_
      exact hk b1
    · refine r_gload_n (pc := 47) X 1 dX0_replaced_47 rfl rfl ?_
      refine r_iload (pc := 48) X 4 dX0_replaced_48 rfl ?_
      refine r_iload (pc := 50) X 6 dX0_replaced_50 rfl ?_
      refine r_ckG (fun h12 => ?_)
      refine r_rf2 h12.1 ?_
      refine r_callV (pc := 52) (q0 := (62 + 2 * (x1).toNat)) (ci := 2) (As := [vI x5, vI x7]) (rest := []) (W' := fun q52_13 => (Zw (kE K) lt b1 c ms rd m P1)) (rv := fun q52_13 => some (vI q52_13)) X dX0_replaced_52 rfl (fun a ha => c_X2_partAt N lt b1 c ms rd m P1 x1 h12 x5 x7 K.1.2.1 K.2.2.1.1 (kE K) a ha) (fun a => Zw_d _ _ _ _ _ _ _ _) gd_X0_56 rfl (n := 2) (by decide) rfl (by decide) rfl rfl (zg_gobj h12) (Nat.zero_le _) (fun q52_13 eq52_13 => ?_)
      show Rn K _ 0 0 _ 55 [(0, .ref (kB K + 5)), (1, vG (kB K) x1), (2, vI x2), (4, vI x4), (5, vI x5), (6, vI x6), (7, vI x7)] [vI q52_13] (Zw (kE K) lt b1 c ms rd m P1)
      refine r_iload_n (pc := 55) X 2 dX0_replaced_55 rfl rfl ?_
      refine r_ck1 (fun h14 => ?_)
      refine r_ck1 (fun h15 => ?_)
      refine r_icmp_ne (pc := 56) X h14 h15 dX0_replaced_56 (tgt := 69) (by decide) (fun h16 => ?_) (fun h16 => ?_)
      · refine r_iinc (pc := 69) (lv' := [(0, .ref (kB K + 5)), (1, vG (kB K) x1), (2, vI x2), (4, vI x4), (5, vI x5), (6, vI x6), (7, vI (x7 + 1))]) X 6 [1, 2, 3, 4, 5, 6, 0] dX0_replaced_69 rfl (by decide) rfl ?_
        refine r_goto (pc := 72) X dX0_replaced_72 (tgt := 40) (by decide) ?_
        exact ih (x7 + 1) b1
      · refine r_aload_n (pc := 59) X 0 dX0_replaced_59 rfl rfl ?_
        refine r_iload (pc := 60) X 4 dX0_replaced_60 rfl ?_
        refine r_iload (pc := 62) X 6 dX0_replaced_62 rfl ?_
        refine r_iload (pc := 64) X 3 dX0_replaced_64 rfl ?_
        refine r_callV (pc := 66) (q0 := 5) (ci := 0) (As := [vI x5, vI x7, vI x4]) (rest := []) (W' := fun q66_17 => (Zw (kE K) lt q66_17 c ms rd m P1)) (rv := fun q66_17 => none) X dX0_replaced_66 rfl (fun a ha => c_X0_link N lt b1 c ms rd m P1 x5 x7 x4 K.1.2.1 K.2.2.1.1 (kE K) a ha) (fun a => Zw_d _ _ _ _ _ _ _ _) gd_X0_74 rfl (n := 3) (by decide) rfl (by decide) rfl rfl rfl (Nat.zero_le _) (fun q66_17 eq66_17 => ?_)
        show Rn K _ 0 0 _ 69 [(0, .ref (kB K + 5)), (1, vG (kB K) x1), (2, vI x2), (4, vI x4), (5, vI x5), (6, vI x6), (7, vI x7)] [] (Zw (kE K) lt q66_17 c ms rd m P1)
        refine r_iinc (pc := 69) (lv' := [(0, .ref (kB K + 5)), (1, vG (kB K) x1), (2, vI x2), (4, vI x4), (5, vI x5), (6, vI x6), (7, vI (x7 + 1))]) X 6 [1, 2, 3, 4, 5, 6, 0] dX0_replaced_69 rfl (by decide) rfl ?_
        refine r_goto (pc := 72) X dX0_replaced_72 (tgt := 40) (by decide) ?_
        exact ih (x7 + 1) q66_17
set_option maxRecDepth 100000 in
set_option maxHeartbeats 4000000 in
theorem t_X0_replaced_L20 (N : Nat) (lt b c ms rd m : Bd) (P : PL) (P1 : PL) (x1 x2 x4 : Int) (K : KT) (X : Kok K cX0_replaced yX0_replaced.cls lw_g ({ frames := 5, cells := 2, slots := 122, locals := 118 } : Room) (some (.object "LoopTypes$Graph")) 8) (k : Bd → Option (Int × Bd × PL)) (hk : ∀ (b1 : Bd), Rn K (Q_X0_replaced K lt b c ms rd m P) 0 0 (k b1) 81 [(0, .ref (kB K + 5)), (2, vI x2), (4, vI x4)] [] (Zw (kE K) lt b1 c ms rd m P1)) : ∀ (n : Nat) (x5 : Int) (b1 : Bd), Rn K (Q_X0_replaced K lt b c ms rd m P) 0 0 (f_X0_replaced_L20 N P1 x1 x2 x4 k n x5 b1) 20 [(0, .ref (kB K + 5)), (1, vG (kB K) x1), (2, vI x2), (4, vI x4), (5, vI x5)] [] (Zw (kE K) lt b1 c ms rd m P1) := by
  intro n
  induction n with
  | zero =>
    intro x5 b1
    rw [f_X0_replaced_L20]
    exact r_none
  | succ n ih =>
    intro x5 b1
    rw [f_X0_replaced_L20]
    refine r_iload (pc := 20) X 4 dX0_replaced_20 rfl ?_
    refine r_gload_n (pc := 22) X 1 dX0_replaced_22 rfl rfl ?_
    refine r_ckG (fun h4 => ?_)
    refine r_rf0 h4.1 ?_
    refine r_get (pc := 23) (v := vI ((gP P1 x1).1)) X (62 + 2 * (x1).toNat) 0 inX2 (zg_gobj h4) rfl (by decide) tf_X0_47 rfl dX0_replaced_23 ?_
    refine r_ck1 (fun h5 => ?_)
    refine r_ck1 (fun h6 => ?_)
    refine r_icmp_ge (pc := 26) X h5 h6 dX0_replaced_26 (tgt := 81) (by decide) (fun h7 => ?_) (fun h7 => ?_)
    · refine r_sub [0, 2, 3] rfl ?_
      exact hk b1
    · refine r_gload_n (pc := 29) X 1 dX0_replaced_29 rfl rfl ?_
      refine r_iload (pc := 30) X 4 dX0_replaced_30 rfl ?_
      refine r_rf1 h4.1 ?_
      refine r_callV (pc := 32) (q0 := (62 + 2 * (x1).toNat)) (ci := 2) (As := [vI x5]) (rest := []) (W' := fun q32_8 => (Zw (kE K) lt b1 c ms rd m P1)) (rv := fun q32_8 => some (vI q32_8)) X dX0_replaced_32 rfl (fun a ha => c_X2_partCount N lt b1 c ms rd m P1 x1 h4 x5 K.1.2.1 K.2.2.1.1 (kE K) a ha) (fun a => Zw_d _ _ _ _ _ _ _ _) gd_X0_71 rfl (n := 1) (by decide) rfl (by decide) rfl rfl (zg_gobj h4) (Nat.zero_le _) (fun q32_8 eq32_8 => ?_)
      show Rn K _ 0 0 _ 35 [(0, .ref (kB K + 5)), (1, vG (kB K) x1), (2, vI x2), (4, vI x4), (5, vI x5)] [vI q32_8] (Zw (kE K) lt b1 c ms rd m P1)
      refine r_istore (pc := 35) (lv' := [(0, .ref (kB K + 5)), (1, vG (kB K) x1), (2, vI x2), (4, vI x4), (5, vI x5), (6, vI q32_8)]) X [1, 2, 3, 4, 5, 0] dX0_replaced_35 (by decide) rfl ?_
      refine r_iconst (pc := 37) X 0 dX0_replaced_37 (by decide) ?_
      refine r_istore (pc := 38) (lv' := [(0, .ref (kB K + 5)), (1, vG (kB K) x1), (2, vI x2), (4, vI x4), (5, vI x5), (6, vI q32_8), (7, vI 0)]) X [1, 2, 3, 4, 5, 6, 0] dX0_replaced_38 (by decide) rfl ?_
      refine t_X0_replaced_L40 N lt b c ms rd m P P1 x1 x2 x4 x5 q32_8 K X _ ?_ N 0 b1
      intro b_40
      refine r_iinc (pc := 75) (lv' := [(0, .ref (kB K + 5)), (1, vG (kB K) x1), (2, vI x2), (4, vI x4), (5, vI (x5 + 1))]) X 4 [1, 2, 3, 4, 0] dX0_replaced_75 rfl (by decide) rfl ?_
      refine r_goto (pc := 78) X dX0_replaced_78 (tgt := 20) (by decide) ?_
      exact ih (x5 + 1) b_40
set_option maxRecDepth 100000 in
set_option maxHeartbeats 4000000 in
theorem t_X0_replaced (N : Nat) (lt b c ms rd m : Bd) (P : PL) (x1 x2 x3 : Int) (K : KT) (X : Kok K cX0_replaced yX0_replaced.cls lw_g ({ frames := 5, cells := 2, slots := 122, locals := 118 } : Room) (some (.object "LoopTypes$Graph")) 8) : Rn K (Q_X0_replaced K lt b c ms rd m P) 0 0 (f_X0_replaced N b P x1 x2 x3) 0 [(0, .ref (kB K + 5)), (1, vG (kB K) x1), (2, vI x2), (3, vG (kB K) x3)] [] (Zw (kE K) lt b c ms rd m P) := by
  unfold f_X0_replaced
  refine r_aload_n (pc := 0) X 0 dX0_replaced_0 rfl rfl ?_
  refine r_callV (pc := 1) (q0 := 5) (ci := 0) (As := []) (rest := []) (W' := fun q1_1 => (Zw (kE K) lt q1_1 c ms rd m P)) (rv := fun q1_1 => none) X dX0_replaced_1 rfl (fun a ha => c_X0_start N lt b c ms rd m P K.1.2.1 K.2.2.1.1 (kE K) a ha) (fun a => Zw_d _ _ _ _ _ _ _ _) gd_X0_64 rfl (n := 0) (by decide) rfl (by decide) rfl rfl rfl (Nat.zero_le _) (fun q1_1 eq1_1 => ?_)
  show Rn K _ 0 0 _ 4 [(0, .ref (kB K + 5)), (1, vG (kB K) x1), (2, vI x2), (3, vG (kB K) x3)] [] (Zw (kE K) lt q1_1 c ms rd m P)
  refine r_aload_n (pc := 4) X 0 dX0_replaced_4 rfl rfl ?_
  refine r_gload_n (pc := 5) X 1 dX0_replaced_5 rfl rfl ?_
  refine r_callV (pc := 6) (q0 := 5) (ci := 0) (As := [vG (kB K) x1]) (rest := []) (W' := fun q6_2 => (Zw (kE K) lt q6_2.2 c ms rd m P)) (rv := fun q6_2 => some (vI q6_2.1)) X dX0_replaced_6 rfl (fun a ha => c_X0_putAll N lt q1_1 c ms rd m P x1 K.1.2.1 K.2.2.1.1 (kE K) a ha) (fun a => Zw_d _ _ _ _ _ _ _ _) gd_X0_67 rfl (n := 1) (by decide) rfl (by decide) rfl rfl rfl (Nat.zero_le _) (fun q6_2 eq6_2 => ?_)
  show Rn K _ 0 0 _ 9 [(0, .ref (kB K + 5)), (1, vG (kB K) x1), (2, vI x2), (3, vG (kB K) x3)] [vI q6_2.1] (Zw (kE K) lt q6_2.2 c ms rd m P)
  refine r_pop (pc := 9) X dX0_replaced_9 rfl ?_
  refine r_aload_n (pc := 10) X 0 dX0_replaced_10 rfl rfl ?_
  refine r_gload_n (pc := 11) X 3 dX0_replaced_11 rfl rfl ?_
  refine r_callV (pc := 12) (q0 := 5) (ci := 0) (As := [vG (kB K) x3]) (rest := []) (W' := fun q12_3 => (Zw (kE K) lt q12_3.2 c ms rd m P)) (rv := fun q12_3 => some (vI q12_3.1)) X dX0_replaced_12 rfl (fun a ha => c_X0_putAll N lt q6_2.2 c ms rd m P x3 K.1.2.1 K.2.2.1.1 (kE K) a ha) (fun a => Zw_d _ _ _ _ _ _ _ _) gd_X0_67 rfl (n := 1) (by decide) rfl (by decide) rfl rfl rfl (Nat.zero_le _) (fun q12_3 eq12_3 => ?_)
  show Rn K _ 0 0 _ 15 [(0, .ref (kB K + 5)), (1, vG (kB K) x1), (2, vI x2), (3, vG (kB K) x3)] [vI q12_3.1] (Zw (kE K) lt q12_3.2 c ms rd m P)
  refine r_istore (pc := 15) (i := 4) (lv' := [(0, .ref (kB K + 5)), (1, vG (kB K) x1), (2, vI x2), (3, vG (kB K) x3), (4, vI q12_3.1)]) X [1, 2, 3, 4, 0] dX0_replaced_15 (by decide) (by simp [lv_pick, z_cat]) ?_
  refine r_iconst (pc := 17) X 0 dX0_replaced_17 (by decide) ?_
  refine r_istore (pc := 18) (lv' := [(0, .ref (kB K + 5)), (1, vG (kB K) x1), (2, vI x2), (3, vG (kB K) x3), (4, vI q12_3.1), (5, vI 0)]) X [1, 2, 3, 4, 5, 0] dX0_replaced_18 (by decide) rfl ?_
  refine r_sub [0, 1, 2, 4, 5] rfl ?_
  refine t_X0_replaced_L20 N lt b c ms rd m P P x1 x2 q12_3.1 K X _ ?_ N 0 q12_3.2
  intro b_20
  refine r_aload_n (pc := 81) X 0 dX0_replaced_81 rfl rfl ?_
  refine r_iload_n (pc := 82) X 1 dX0_replaced_82 rfl rfl ?_
  refine r_jn (J := fun j92 => ∀ (s1_92 : Int), Rn K (Q_X0_replaced K lt b c ms rd m P) 0 0 (j92 s1_92) 92 [] [vI s1_92, .ref (kB K + 5)] (Zw (kE K) lt b_20 c ms rd m P)) ?_ (fun j92 hj92 => ?_)
  · intro s1_92
    refine r_callV (pc := 92) (q0 := 5) (ci := 0) (As := [vI s1_92]) (rest := []) (W' := fun q92_18 => (Zw (kE K) lt q92_18.2.1 c ms rd m q92_18.2.2)) (rv := fun q92_18 => some (vG (kB K) q92_18.1)) X dX0_replaced_92 rfl (fun a ha => c_X0_smallest N lt b_20 c ms rd m P s1_92 K.1.2.1 K.2.2.1.1 (kE K) a ha) (fun a => Zw_d _ _ _ _ _ _ _ _) gd_X0_78 rfl (n := 1) (by decide) rfl (by decide) rfl rfl rfl (Nat.zero_le _) (fun q92_18 eq92_18 => ?_)
    show Rn K _ 2 122 _ 95 [] [vG (kB K) q92_18.1] (Zw (kE K) lt q92_18.2.1 c ms rd m q92_18.2.2)
    exact r_gret (pc := 95) X rfl rfl (by decide) dX0_replaced_95
  refine r_ck1 (fun h19 => ?_)
  refine r_ifne (pc := 83) X h19 dX0_replaced_83 (tgt := 91) (by decide) (fun h20 => ?_) (fun h20 => ?_)
  · refine r_iconst (pc := 91) X 0 dX0_replaced_91 (by decide) ?_
    refine r_sub [] rfl ?_
    exact hj92 0
  · refine r_iload (pc := 86) X 2 dX0_replaced_86 rfl ?_
    refine r_goto (pc := 88) X dX0_replaced_88 (tgt := 92) (by decide) ?_
    refine r_sub [] rfl ?_
    exact hj92 q12_3.1
theorem c_X0_replaced (N : Nat) (lt b c ms rd m : Bd) (P : PL) (x1 x2 x3 : Int) (l : Launch) (D : va_G) (E : ET) (a : Int × Bd × PL) (ha : f_X0_replaced N b P x1 x2 x3 = some a) : Ct l yX0_replaced (Cond.code yX0_replaced cX0_replaced 8 (some (.object "LoopTypes$Graph")) :: lw_g) ({ frames := 5, cells := 2, slots := 122, locals := 118 } : Room) D E [.ref (E.2.2.2 + 5), vG (E.2.2.2) x1, vI x2, vG (E.2.2.2) x3] (Zw E lt b c ms rd m P) (Zw E lt a.2.1 c ms rd m a.2.2) (some (vG E.2.2.2 a.1)) :=
  ct_of (av := fun E => [.ref (E.2.2.2 + 5), vG (E.2.2.2) x1, vI x2, vG (E.2.2.2) x3]) (W0 := fun E => Zw E lt b c ms rd m P) (W1 := fun E (a : Int × Bd × PL) => Zw E lt a.2.1 c ms rd m a.2.2) (rw := fun E a => some (vG E.2.2.2 a.1)) (by decide) rfl (fun E => Zw_d E lt b c ms rd m P) (fun E => by simp [lg_sl, z_cat, z_catR, z_catI, z_catL]) (fun K X => r_lv (by simp [lv_args, z_cat, z_catR, z_catI, z_catL]) (t_X0_replaced N lt b c ms rd m P x1 x2 x3 K X)) l D E a ha
abbrev Q_X0_cutOff (K : KT) (lt b c ms rd m : Bd) (P : PL) : (Int × Bd × PL) → State → Prop := Qm K ({ frames := 5, cells := 2, slots := 122, locals := 118 } : Room) (fun a : Int × Bd × PL => Zw (kE K) lt a.2.1 c ms rd m a.2.2) (fun a => some (vG (kB K) a.1))
set_option maxRecDepth 100000 in
set_option maxHeartbeats 4000000 in
theorem t_X0_cutOff_L35 (N : Nat) (lt b c ms rd m : Bd) (P : PL) (P1 : PL) (x1 x2 x3 x4 x5 : Int) (K : KT) (X : Kok K cX0_cutOff yX0_cutOff.cls lw_g ({ frames := 5, cells := 2, slots := 122, locals := 118 } : Room) (some (.object "LoopTypes$Graph")) 8) (k : Bd → Option (Int × Bd × PL)) (hk : ∀ (b1 : Bd), Rn K (Q_X0_cutOff K lt b c ms rd m P) 0 0 (k b1) 114 [(0, .ref (kB K + 5)), (1, vG (kB K) x1), (2, vI x2), (3, vI x3), (4, vI x4)] [] (Zw (kE K) lt b1 c ms rd m P1)) : ∀ (n : Nat) (x6 : Int) (b1 : Bd), Rn K (Q_X0_cutOff K lt b c ms rd m P) 0 0 (f_X0_cutOff_L35 P1 x1 x2 x3 x4 x5 k n x6 b1) 35 [(0, .ref (kB K + 5)), (1, vG (kB K) x1), (2, vI x2), (3, vI x3), (4, vI x4), (5, vI x5), (6, vI x6)] [] (Zw (kE K) lt b1 c ms rd m P1) := by
  intro n
  induction n with
  | zero =>
    intro x6 b1
    rw [f_X0_cutOff_L35]
    exact r_none
  | succ n ih =>
    intro x6 b1
    rw [f_X0_cutOff_L35]
    refine r_iload (pc := 35) X 6 dX0_cutOff_35 rfl ?_
    refine r_gload_n (pc := 37) X 1 dX0_cutOff_37 rfl rfl ?_
    refine r_ckG (fun h7 => ?_)
    refine r_rf0 h7.1 ?_
    refine r_get (pc := 38) (v := vI ((gP P1 x1).1)) X (62 + 2 * (x1).toNat) 0 inX2 (zg_gobj h7) rfl (by decide) tf_X0_47 rfl dX0_cutOff_38 ?_
    refine r_ck1 (fun h8 => ?_)
    refine r_ck1 (fun h9 => ?_)
    refine r_icmp_ge (pc := 41) X h8 h9 dX0_cutOff_41 (tgt := 114) (by decide) (fun h10 => ?_) (fun h10 => ?_)
    · refine r_sub [0, 1, 2, 3, 4] rfl ?_
      exact hk b1
    · refine r_iload (pc := 44) X 4 dX0_cutOff_44 rfl ?_
      refine r_iconst (pc := 46) X 1 dX0_cutOff_46 (by decide) ?_
      refine r_iadd (pc := 47) X dX0_cutOff_47 ?_
      refine r_iload_n (pc := 48) X 2 dX0_cutOff_48 rfl rfl ?_
      refine r_jn (J := fun j57 => ∀ (s0_57 : Int), Rn K (Q_X0_cutOff K lt b c ms rd m P) 0 0 (j57 s0_57) 57 [(0, .ref (kB K + 5)), (1, vG (kB K) x1), (2, vI x2), (3, vI x3), (4, vI x4), (5, vI x5), (6, vI x6)] [vI s0_57] (Zw (kE K) lt b1 c ms rd m P1)) ?_ (fun j57 hj57 => ?_)
      · intro s0_57
        refine r_istore (pc := 57) (lv' := [(0, .ref (kB K + 5)), (1, vG (kB K) x1), (2, vI x2), (3, vI x3), (4, vI x4), (5, vI x5), (6, vI x6), (7, vI s0_57)]) X [1, 2, 3, 4, 5, 6, 7, 0] dX0_cutOff_57 (by decide) rfl ?_
        refine r_aload_n (pc := 59) X 0 dX0_cutOff_59 rfl rfl ?_
        refine r_gload_n (pc := 60) X 1 dX0_cutOff_60 rfl rfl ?_
        refine r_iload (pc := 61) X 6 dX0_cutOff_61 rfl ?_
        refine r_rf1 h7.1 ?_
        refine r_callV (pc := 63) (q0 := (62 + 2 * (x1).toNat)) (ci := 2) (As := [vI x6]) (rest := [.ref (kB K + 5)]) (W' := fun q63_11 => (Zw (kE K) lt b1 c ms rd m P1)) (rv := fun q63_11 => some (vI q63_11)) X dX0_cutOff_63 rfl (fun a ha => c_X2_headAt N lt b1 c ms rd m P1 x1 h7 x6 K.1.2.1 K.2.2.1.1 (kE K) a ha) (fun a => Zw_d _ _ _ _ _ _ _ _) gd_X0_52 rfl (n := 1) (by decide) rfl (by decide) rfl rfl (zg_gobj h7) (by simp [z_cat, z_catR, z_catI, z_catL]) (fun q63_11 eq63_11 => ?_)
        show Rn K _ 0 0 _ 66 [(0, .ref (kB K + 5)), (1, vG (kB K) x1), (2, vI x2), (3, vI x3), (4, vI x4), (5, vI x5), (6, vI x6), (7, vI s0_57)] [vI q63_11, .ref (kB K + 5)] (Zw (kE K) lt b1 c ms rd m P1)
        refine r_iload (pc := 66) X 7 dX0_cutOff_66 rfl ?_
        refine r_jn (J := fun j85 => ∀ (s2_85 : Int), Rn K (Q_X0_cutOff K lt b c ms rd m P) 0 0 (j85 s2_85) 85 [(0, .ref (kB K + 5)), (1, vG (kB K) x1), (2, vI x2), (3, vI x3), (4, vI x4), (5, vI x5), (6, vI x6), (7, vI s0_57)] [vI s2_85, vI q63_11, .ref (kB K + 5)] (Zw (kE K) lt b1 c ms rd m P1)) ?_ (fun j85 hj85 => ?_)
        · intro s2_85
          refine r_iload (pc := 85) X 7 dX0_cutOff_85 rfl ?_
          refine r_jn (J := fun j104 => ∀ (s3_104 : Int), Rn K (Q_X0_cutOff K lt b c ms rd m P) 0 0 (j104 s3_104) 104 [(0, .ref (kB K + 5)), (1, vG (kB K) x1), (2, vI x2), (3, vI x3), (4, vI x4), (5, vI x5), (6, vI x6)] [vI s3_104, vI s2_85, vI q63_11, .ref (kB K + 5)] (Zw (kE K) lt b1 c ms rd m P1)) ?_ (fun j104 hj104 => ?_)
          · intro s3_104
            refine r_callV (pc := 104) (q0 := 5) (ci := 0) (As := [vI q63_11, vI s2_85, vI s3_104]) (rest := []) (W' := fun q104_12 => (Zw (kE K) lt q104_12.2 c ms rd m P1)) (rv := fun q104_12 => some (vI q104_12.1)) X dX0_cutOff_104 rfl (fun a ha => c_X0_put N lt b1 c ms rd m P1 q63_11 s2_85 s3_104 K.1.2.1 K.2.2.1.1 (kE K) a ha) (fun a => Zw_d _ _ _ _ _ _ _ _) gd_X0_60 rfl (n := 3) (by decide) rfl (by decide) rfl rfl rfl (Nat.zero_le _) (fun q104_12 eq104_12 => ?_)
            show Rn K _ 0 0 _ 107 [(0, .ref (kB K + 5)), (1, vG (kB K) x1), (2, vI x2), (3, vI x3), (4, vI x4), (5, vI x5), (6, vI x6)] [vI q104_12.1] (Zw (kE K) lt q104_12.2 c ms rd m P1)
            refine r_pop (pc := 107) X dX0_cutOff_107 rfl ?_
            refine r_iinc (pc := 108) (lv' := [(0, .ref (kB K + 5)), (1, vG (kB K) x1), (2, vI x2), (3, vI x3), (4, vI x4), (5, vI x5), (6, vI (x6 + 1))]) X 6 [1, 2, 3, 4, 5, 6, 0] dX0_cutOff_108 rfl (by decide) rfl ?_
            refine r_goto (pc := 111) X dX0_cutOff_111 (tgt := 35) (by decide) ?_
            exact ih (x6 + 1) q104_12.2
          refine r_ck1 (fun h13 => ?_)
          refine r_ifeq (pc := 87) X h13 dX0_cutOff_87 (tgt := 94) (by decide) (fun h14 => ?_) (fun h14 => ?_)
          · refine r_iload (pc := 94) X 5 dX0_cutOff_94 rfl ?_
            refine r_gload_n (pc := 96) X 1 dX0_cutOff_96 rfl rfl ?_
            refine r_iload (pc := 97) X 6 dX0_cutOff_97 rfl ?_
            refine r_iconst (pc := 99) X 1 dX0_cutOff_99 (by decide) ?_
            refine r_rf2 h7.1 ?_
            refine r_callV (pc := 100) (q0 := (62 + 2 * (x1).toNat)) (ci := 2) (As := [vI x6, vI 1]) (rest := [vI x5, vI s2_85, vI q63_11, .ref (kB K + 5)]) (W' := fun q100_15 => (Zw (kE K) lt b1 c ms rd m P1)) (rv := fun q100_15 => some (vI q100_15)) X dX0_cutOff_100 rfl (fun a ha => c_X2_partAt N lt b1 c ms rd m P1 x1 h7 x6 1 K.1.2.1 K.2.2.1.1 (kE K) a ha) (fun a => Zw_d _ _ _ _ _ _ _ _) gd_X0_56 rfl (n := 2) (by decide) rfl (by decide) rfl rfl (zg_gobj h7) (by simp [z_cat, z_catR, z_catI, z_catL]) (fun q100_15 eq100_15 => ?_)
            show Rn K _ 0 0 _ 103 [(0, .ref (kB K + 5)), (1, vG (kB K) x1), (2, vI x2), (3, vI x3), (4, vI x4), (5, vI x5), (6, vI x6), (7, vI s0_57)] [vI q100_15, vI x5, vI s2_85, vI q63_11, .ref (kB K + 5)] (Zw (kE K) lt b1 c ms rd m P1)
            refine r_iadd (pc := 103) X dX0_cutOff_103 ?_
            refine r_sub [0, 1, 2, 3, 4, 5, 6] rfl ?_
            exact hj104 (x5 + q100_15)
          · refine r_iload_n (pc := 90) X 3 dX0_cutOff_90 rfl rfl ?_
            refine r_goto (pc := 91) X dX0_cutOff_91 (tgt := 104) (by decide) ?_
            refine r_sub [0, 1, 2, 3, 4, 5, 6] rfl ?_
            exact hj104 x3
        refine r_ck1 (fun h16 => ?_)
        refine r_ifeq (pc := 68) X h16 dX0_cutOff_68 (tgt := 75) (by decide) (fun h17 => ?_) (fun h17 => ?_)
        · refine r_iload (pc := 75) X 5 dX0_cutOff_75 rfl ?_
          refine r_gload_n (pc := 77) X 1 dX0_cutOff_77 rfl rfl ?_
          refine r_iload (pc := 78) X 6 dX0_cutOff_78 rfl ?_
          refine r_iconst (pc := 80) X 0 dX0_cutOff_80 (by decide) ?_
          refine r_rf2 h7.1 ?_
          refine r_callV (pc := 81) (q0 := (62 + 2 * (x1).toNat)) (ci := 2) (As := [vI x6, vI 0]) (rest := [vI x5, vI q63_11, .ref (kB K + 5)]) (W' := fun q81_18 => (Zw (kE K) lt b1 c ms rd m P1)) (rv := fun q81_18 => some (vI q81_18)) X dX0_cutOff_81 rfl (fun a ha => c_X2_partAt N lt b1 c ms rd m P1 x1 h7 x6 0 K.1.2.1 K.2.2.1.1 (kE K) a ha) (fun a => Zw_d _ _ _ _ _ _ _ _) gd_X0_56 rfl (n := 2) (by decide) rfl (by decide) rfl rfl (zg_gobj h7) (by simp [z_cat, z_catR, z_catI, z_catL]) (fun q81_18 eq81_18 => ?_)
          show Rn K _ 0 0 _ 84 [(0, .ref (kB K + 5)), (1, vG (kB K) x1), (2, vI x2), (3, vI x3), (4, vI x4), (5, vI x5), (6, vI x6), (7, vI s0_57)] [vI q81_18, vI x5, vI q63_11, .ref (kB K + 5)] (Zw (kE K) lt b1 c ms rd m P1)
          refine r_iadd (pc := 84) X dX0_cutOff_84 ?_
          exact hj85 (x5 + q81_18)
        · refine r_iload_n (pc := 71) X 3 dX0_cutOff_71 rfl rfl ?_
          refine r_goto (pc := 72) X dX0_cutOff_72 (tgt := 85) (by decide) ?_
          exact hj85 x3
      refine r_ck1 (fun h19 => ?_)
      refine r_ck1 (fun h20 => ?_)
      refine r_icmp_ne (pc := 49) X h19 h20 dX0_cutOff_49 (tgt := 56) (by decide) (fun h21 => ?_) (fun h21 => ?_)
      · refine r_iconst (pc := 56) X 0 dX0_cutOff_56 (by decide) ?_
        exact hj57 0
      · refine r_iconst (pc := 52) X 1 dX0_cutOff_52 (by decide) ?_
        refine r_goto (pc := 53) X dX0_cutOff_53 (tgt := 57) (by decide) ?_
        exact hj57 1
set_option maxRecDepth 100000 in
set_option maxHeartbeats 4000000 in
theorem t_X0_cutOff_L15 (N : Nat) (lt b c ms rd m : Bd) (P : PL) (P1 : PL) (x1 x2 x3 : Int) (K : KT) (X : Kok K cX0_cutOff yX0_cutOff.cls lw_g ({ frames := 5, cells := 2, slots := 122, locals := 118 } : Room) (some (.object "LoopTypes$Graph")) 8) (k : Bd → Option (Int × Bd × PL)) (hk : ∀ (b1 : Bd), Rn K (Q_X0_cutOff K lt b c ms rd m P) 0 0 (k b1) 120 [(0, .ref (kB K + 5)), (2, vI x2), (3, vI x3)] [] (Zw (kE K) lt b1 c ms rd m P1)) : ∀ (n : Nat) (x4 : Int) (b1 : Bd), Rn K (Q_X0_cutOff K lt b c ms rd m P) 0 0 (f_X0_cutOff_L15 N P1 x1 x2 x3 k n x4 b1) 15 [(0, .ref (kB K + 5)), (1, vG (kB K) x1), (2, vI x2), (3, vI x3), (4, vI x4)] [] (Zw (kE K) lt b1 c ms rd m P1) := by
  intro n
  induction n with
  | zero =>
    intro x4 b1
    rw [f_X0_cutOff_L15]
    exact r_none
  | succ n ih =>
    intro x4 b1
    rw [f_X0_cutOff_L15]
    refine r_iload (pc := 15) X 4 dX0_cutOff_15 rfl ?_
    refine r_iload_n (pc := 17) X 2 dX0_cutOff_17 rfl rfl ?_
    refine r_ck1 (fun h3 => ?_)
    refine r_ck1 (fun h4 => ?_)
    refine r_icmp_ge (pc := 18) X h3 h4 dX0_cutOff_18 (tgt := 120) (by decide) (fun h5 => ?_) (fun h5 => ?_)
    · refine r_sub [0, 2, 3] rfl ?_
      exact hk b1
    · refine r_aload_n (pc := 21) X 0 dX0_cutOff_21 rfl rfl ?_
      refine r_get (pc := 22) (v := vI (b1 3 0)) X 5 3 inX0 rfl rfl (by decide) tf_X0_39 rfl dX0_cutOff_22 ?_
      refine r_gload_n (pc := 25) X 1 dX0_cutOff_25 rfl rfl ?_
      refine r_ckG (fun h6 => ?_)
      refine r_rf0 h6.1 ?_
      refine r_get (pc := 26) (v := vI ((gP P1 x1).1)) X (62 + 2 * (x1).toNat) 0 inX2 (zg_gobj h6) rfl (by decide) tf_X0_47 rfl dX0_cutOff_26 ?_
      refine r_iadd (pc := 29) X dX0_cutOff_29 ?_
      refine r_istore (pc := 30) (lv' := [(0, .ref (kB K + 5)), (1, vG (kB K) x1), (2, vI x2), (3, vI x3), (4, vI x4), (5, vI ((b1 3 0) + ((gP P1 x1).1)))]) X [1, 2, 3, 4, 5, 0] dX0_cutOff_30 (by decide) rfl ?_
      refine r_iconst (pc := 32) X 0 dX0_cutOff_32 (by decide) ?_
      refine r_istore (pc := 33) (lv' := [(0, .ref (kB K + 5)), (1, vG (kB K) x1), (2, vI x2), (3, vI x3), (4, vI x4), (5, vI ((b1 3 0) + ((gP P1 x1).1))), (6, vI 0)]) X [1, 2, 3, 4, 5, 6, 0] dX0_cutOff_33 (by decide) rfl ?_
      refine t_X0_cutOff_L35 N lt b c ms rd m P P1 x1 x2 x3 x4 ((b1 3 0) + ((gP P1 x1).1)) K X _ ?_ N 0 b1
      intro b_35
      refine r_iinc (pc := 114) (lv' := [(0, .ref (kB K + 5)), (1, vG (kB K) x1), (2, vI x2), (3, vI x3), (4, vI (x4 + 1))]) X 4 [1, 2, 3, 4, 0] dX0_cutOff_114 rfl (by decide) rfl ?_
      refine r_goto (pc := 117) X dX0_cutOff_117 (tgt := 15) (by decide) ?_
      exact ih (x4 + 1) b_35
set_option maxRecDepth 100000 in
set_option maxHeartbeats 4000000 in
theorem t_X0_cutOff (N : Nat) (lt b c ms rd m : Bd) (P : PL) (x1 x2 : Int) (K : KT) (X : Kok K cX0_cutOff yX0_cutOff.cls lw_g ({ frames := 5, cells := 2, slots := 122, locals := 118 } : Room) (some (.object "LoopTypes$Graph")) 8) : Rn K (Q_X0_cutOff K lt b c ms rd m P) 0 0 (f_X0_cutOff N b P x1 x2) 0 [(0, .ref (kB K + 5)), (1, vG (kB K) x1), (2, vI x2)] [] (Zw (kE K) lt b c ms rd m P) := by
  unfold f_X0_cutOff
  refine r_aload_n (pc := 0) X 0 dX0_cutOff_0 rfl rfl ?_
  refine r_callV (pc := 1) (q0 := 5) (ci := 0) (As := []) (rest := []) (W' := fun q1_1 => (Zw (kE K) lt q1_1 c ms rd m P)) (rv := fun q1_1 => none) X dX0_cutOff_1 rfl (fun a ha => c_X0_start N lt b c ms rd m P K.1.2.1 K.2.2.1.1 (kE K) a ha) (fun a => Zw_d _ _ _ _ _ _ _ _) gd_X0_64 rfl (n := 0) (by decide) rfl (by decide) rfl rfl rfl (Nat.zero_le _) (fun q1_1 eq1_1 => ?_)
  show Rn K _ 0 0 _ 4 [(0, .ref (kB K + 5)), (1, vG (kB K) x1), (2, vI x2)] [] (Zw (kE K) lt q1_1 c ms rd m P)
  refine r_aload_n (pc := 4) X 0 dX0_cutOff_4 rfl rfl ?_
  refine r_iconst (pc := 5) X 3 dX0_cutOff_5 (by decide) ?_
  refine r_iconst (pc := 6) X 0 dX0_cutOff_6 (by decide) ?_
  refine r_iconst (pc := 7) X 0 dX0_cutOff_7 (by decide) ?_
  refine r_callV (pc := 8) (q0 := 5) (ci := 0) (As := [vI 3, vI 0, vI 0]) (rest := []) (W' := fun q8_2 => (Zw (kE K) lt q8_2.2 c ms rd m P)) (rv := fun q8_2 => some (vI q8_2.1)) X dX0_cutOff_8 rfl (fun a ha => c_X0_put N lt q1_1 c ms rd m P 3 0 0 K.1.2.1 K.2.2.1.1 (kE K) a ha) (fun a => Zw_d _ _ _ _ _ _ _ _) gd_X0_60 rfl (n := 3) (by decide) rfl (by decide) rfl rfl rfl (Nat.zero_le _) (fun q8_2 eq8_2 => ?_)
  show Rn K _ 0 0 _ 11 [(0, .ref (kB K + 5)), (1, vG (kB K) x1), (2, vI x2)] [vI q8_2.1] (Zw (kE K) lt q8_2.2 c ms rd m P)
  refine r_istore_n (pc := 11) (lv' := [(0, .ref (kB K + 5)), (1, vG (kB K) x1), (2, vI x2), (3, vI q8_2.1)]) X [1, 2, 3, 0] dX0_cutOff_11 rfl (by decide) rfl ?_
  refine r_iconst (pc := 12) X 0 dX0_cutOff_12 (by decide) ?_
  refine r_istore (pc := 13) (lv' := [(0, .ref (kB K + 5)), (1, vG (kB K) x1), (2, vI x2), (3, vI q8_2.1), (4, vI 0)]) X [1, 2, 3, 4, 0] dX0_cutOff_13 (by decide) rfl ?_
  refine t_X0_cutOff_L15 N lt b c ms rd m P P x1 x2 q8_2.1 K X _ ?_ N 0 q8_2.2
  intro b_15
  refine r_aload_n (pc := 120) X 0 dX0_cutOff_120 rfl rfl ?_
  refine r_iload_n (pc := 121) X 1 dX0_cutOff_121 rfl rfl ?_
  refine r_jn (J := fun j132 => ∀ (s1_132 : Int), Rn K (Q_X0_cutOff K lt b c ms rd m P) 0 0 (j132 s1_132) 132 [] [vI s1_132, .ref (kB K + 5)] (Zw (kE K) lt b_15 c ms rd m P)) ?_ (fun j132 hj132 => ?_)
  · intro s1_132
    refine r_callV (pc := 132) (q0 := 5) (ci := 0) (As := [vI s1_132]) (rest := []) (W' := fun q132_22 => (Zw (kE K) lt q132_22.2.1 c ms rd m q132_22.2.2)) (rv := fun q132_22 => some (vG (kB K) q132_22.1)) X dX0_cutOff_132 rfl (fun a ha => c_X0_smallest N lt b_15 c ms rd m P s1_132 K.1.2.1 K.2.2.1.1 (kE K) a ha) (fun a => Zw_d _ _ _ _ _ _ _ _) gd_X0_78 rfl (n := 1) (by decide) rfl (by decide) rfl rfl rfl (Nat.zero_le _) (fun q132_22 eq132_22 => ?_)
    show Rn K _ 2 122 _ 135 [] [vG (kB K) q132_22.1] (Zw (kE K) lt q132_22.2.1 c ms rd m q132_22.2.2)
    exact r_gret (pc := 135) X rfl rfl (by decide) dX0_cutOff_135
  refine r_ck1 (fun h23 => ?_)
  refine r_ifne (pc := 122) X h23 dX0_cutOff_122 (tgt := 129) (by decide) (fun h24 => ?_) (fun h24 => ?_)
  · refine r_iload_n (pc := 129) X 2 dX0_cutOff_129 rfl rfl ?_
    refine r_iconst (pc := 130) X 1 dX0_cutOff_130 (by decide) ?_
    refine r_iadd (pc := 131) X dX0_cutOff_131 ?_
    refine r_sub [] rfl ?_
    exact hj132 (q8_2.1 + 1)
  · refine r_iload_n (pc := 125) X 2 dX0_cutOff_125 rfl rfl ?_
    refine r_goto (pc := 126) X dX0_cutOff_126 (tgt := 132) (by decide) ?_
    refine r_sub [] rfl ?_
    exact hj132 q8_2.1
theorem c_X0_cutOff (N : Nat) (lt b c ms rd m : Bd) (P : PL) (x1 x2 : Int) (l : Launch) (D : va_G) (E : ET) (a : Int × Bd × PL) (ha : f_X0_cutOff N b P x1 x2 = some a) : Ct l yX0_cutOff (Cond.code yX0_cutOff cX0_cutOff 8 (some (.object "LoopTypes$Graph")) :: lw_g) ({ frames := 5, cells := 2, slots := 122, locals := 118 } : Room) D E [.ref (E.2.2.2 + 5), vG (E.2.2.2) x1, vI x2] (Zw E lt b c ms rd m P) (Zw E lt a.2.1 c ms rd m a.2.2) (some (vG E.2.2.2 a.1)) :=
  ct_of (av := fun E => [.ref (E.2.2.2 + 5), vG (E.2.2.2) x1, vI x2]) (W0 := fun E => Zw E lt b c ms rd m P) (W1 := fun E (a : Int × Bd × PL) => Zw E lt a.2.1 c ms rd m a.2.2) (rw := fun E a => some (vG E.2.2.2 a.1)) (by decide) rfl (fun E => Zw_d E lt b c ms rd m P) (fun E => by simp [lg_sl, z_cat, z_catR, z_catI, z_catL]) (fun K X => r_lv (by simp [lv_args, z_cat, z_catR, z_catI, z_catL]) (t_X0_cutOff N lt b c ms rd m P x1 x2 K X)) l D E a ha
abbrev Q_X0_turned (K : KT) (lt b c ms rd m : Bd) (P : PL) : (Int × Bd × PL) → State → Prop := Qm K ({ frames := 5, cells := 2, slots := 122, locals := 118 } : Room) (fun a : Int × Bd × PL => Zw (kE K) lt a.2.1 c ms rd m a.2.2) (fun a => some (vG (kB K) a.1))
set_option maxRecDepth 100000 in
set_option maxHeartbeats 4000000 in
theorem t_X0_turned_L6 (N : Nat) (lt b c ms rd m : Bd) (P : PL) (P1 : PL) (x1 x2 : Int) (K : KT) (X : Kok K cX0_turned yX0_turned.cls lw_g ({ frames := 5, cells := 2, slots := 122, locals := 118 } : Room) (some (.object "LoopTypes$Graph")) 6) (k : Bd → Option (Int × Bd × PL)) (hk : ∀ (b1 : Bd), Rn K (Q_X0_turned K lt b c ms rd m P) 0 0 (k b1) 72 [(0, .ref (kB K + 5))] [] (Zw (kE K) lt b1 c ms rd m P1)) : ∀ (n : Nat) (x3 : Int) (b1 : Bd), Rn K (Q_X0_turned K lt b c ms rd m P) 0 0 (f_X0_turned_L6 P1 x1 x2 k n x3 b1) 6 [(0, .ref (kB K + 5)), (1, vG (kB K) x1), (2, vI x2), (3, vI x3)] [] (Zw (kE K) lt b1 c ms rd m P1) := by
  intro n
  induction n with
  | zero =>
    intro x3 b1
    rw [f_X0_turned_L6]
    exact r_none
  | succ n ih =>
    intro x3 b1
    rw [f_X0_turned_L6]
    refine r_iload_n (pc := 6) X 3 dX0_turned_6 rfl rfl ?_
    refine r_gload_n (pc := 7) X 1 dX0_turned_7 rfl rfl ?_
    refine r_ckG (fun h2 => ?_)
    refine r_rf0 h2.1 ?_
    refine r_get (pc := 8) (v := vI ((gP P1 x1).1)) X (62 + 2 * (x1).toNat) 0 inX2 (zg_gobj h2) rfl (by decide) tf_X0_47 rfl dX0_turned_8 ?_
    refine r_ck1 (fun h3 => ?_)
    refine r_ck1 (fun h4 => ?_)
    refine r_icmp_ge (pc := 11) X h3 h4 dX0_turned_11 (tgt := 72) (by decide) (fun h5 => ?_) (fun h5 => ?_)
    · refine r_sub [0] rfl ?_
      exact hk b1
    · refine r_gload_n (pc := 14) X 1 dX0_turned_14 rfl rfl ?_
      refine r_iload_n (pc := 15) X 3 dX0_turned_15 rfl rfl ?_
      refine r_iconst (pc := 16) X 0 dX0_turned_16 (by decide) ?_
      refine r_rf2 h2.1 ?_
      refine r_callV (pc := 17) (q0 := (62 + 2 * (x1).toNat)) (ci := 2) (As := [vI x3, vI 0]) (rest := []) (W' := fun q17_6 => (Zw (kE K) lt b1 c ms rd m P1)) (rv := fun q17_6 => some (vI q17_6)) X dX0_turned_17 rfl (fun a ha => c_X2_partAt N lt b1 c ms rd m P1 x1 h2 x3 0 K.1.2.1 K.2.2.1.1 (kE K) a ha) (fun a => Zw_d _ _ _ _ _ _ _ _) gd_X0_56 rfl (n := 2) (by decide) rfl (by decide) rfl rfl (zg_gobj h2) (Nat.zero_le _) (fun q17_6 eq17_6 => ?_)
      show Rn K _ 0 0 _ 20 [(0, .ref (kB K + 5)), (1, vG (kB K) x1), (2, vI x2), (3, vI x3)] [vI q17_6] (Zw (kE K) lt b1 c ms rd m P1)
      refine r_istore (pc := 20) (lv' := [(0, .ref (kB K + 5)), (1, vG (kB K) x1), (2, vI x2), (3, vI x3), (4, vI q17_6)]) X [1, 2, 3, 4, 0] dX0_turned_20 (by decide) rfl ?_
      refine r_gload_n (pc := 22) X 1 dX0_turned_22 rfl rfl ?_
      refine r_iload_n (pc := 23) X 3 dX0_turned_23 rfl rfl ?_
      refine r_iconst (pc := 24) X 1 dX0_turned_24 (by decide) ?_
      refine r_rf2 h2.1 ?_
      refine r_callV (pc := 25) (q0 := (62 + 2 * (x1).toNat)) (ci := 2) (As := [vI x3, vI 1]) (rest := []) (W' := fun q25_7 => (Zw (kE K) lt b1 c ms rd m P1)) (rv := fun q25_7 => some (vI q25_7)) X dX0_turned_25 rfl (fun a ha => c_X2_partAt N lt b1 c ms rd m P1 x1 h2 x3 1 K.1.2.1 K.2.2.1.1 (kE K) a ha) (fun a => Zw_d _ _ _ _ _ _ _ _) gd_X0_56 rfl (n := 2) (by decide) rfl (by decide) rfl rfl (zg_gobj h2) (Nat.zero_le _) (fun q25_7 eq25_7 => ?_)
      show Rn K _ 0 0 _ 28 [(0, .ref (kB K + 5)), (1, vG (kB K) x1), (2, vI x2), (3, vI x3), (4, vI q17_6)] [vI q25_7] (Zw (kE K) lt b1 c ms rd m P1)
      refine r_istore (pc := 28) (lv' := [(0, .ref (kB K + 5)), (1, vG (kB K) x1), (2, vI x2), (3, vI x3), (4, vI q17_6), (5, vI q25_7)]) X [1, 2, 3, 4, 5, 0] dX0_turned_28 (by decide) rfl ?_
      refine r_gload_n (pc := 30) X 1 dX0_turned_30 rfl rfl ?_
      refine r_iload_n (pc := 31) X 3 dX0_turned_31 rfl rfl ?_
      refine r_rf1 h2.1 ?_
      refine r_callV (pc := 32) (q0 := (62 + 2 * (x1).toNat)) (ci := 2) (As := [vI x3]) (rest := []) (W' := fun q32_8 => (Zw (kE K) lt b1 c ms rd m P1)) (rv := fun q32_8 => some (vI q32_8)) X dX0_turned_32 rfl (fun a ha => c_X2_headAt N lt b1 c ms rd m P1 x1 h2 x3 K.1.2.1 K.2.2.1.1 (kE K) a ha) (fun a => Zw_d _ _ _ _ _ _ _ _) gd_X0_52 rfl (n := 1) (by decide) rfl (by decide) rfl rfl (zg_gobj h2) (Nat.zero_le _) (fun q32_8 eq32_8 => ?_)
      show Rn K _ 0 0 _ 35 [(0, .ref (kB K + 5)), (1, vG (kB K) x1), (2, vI x2), (3, vI x3), (4, vI q17_6), (5, vI q25_7)] [vI q32_8] (Zw (kE K) lt b1 c ms rd m P1)
      refine r_iload_n (pc := 35) X 2 dX0_turned_35 rfl rfl ?_
      refine r_ck1 (fun h9 => ?_)
      refine r_ck1 (fun h10 => ?_)
      refine r_icmp_ne (pc := 36) X h9 h10 dX0_turned_36 (tgt := 52) (by decide) (fun h11 => ?_) (fun h11 => ?_)
      · refine r_aload_n (pc := 52) X 0 dX0_turned_52 rfl rfl ?_
        refine r_gload_n (pc := 53) X 1 dX0_turned_53 rfl rfl ?_
        refine r_iload_n (pc := 54) X 3 dX0_turned_54 rfl rfl ?_
        refine r_rf1 h2.1 ?_
        refine r_callV (pc := 55) (q0 := (62 + 2 * (x1).toNat)) (ci := 2) (As := [vI x3]) (rest := [.ref (kB K + 5)]) (W' := fun q55_12 => (Zw (kE K) lt b1 c ms rd m P1)) (rv := fun q55_12 => some (vI q55_12)) X dX0_turned_55 rfl (fun a ha => c_X2_headAt N lt b1 c ms rd m P1 x1 h2 x3 K.1.2.1 K.2.2.1.1 (kE K) a ha) (fun a => Zw_d _ _ _ _ _ _ _ _) gd_X0_52 rfl (n := 1) (by decide) rfl (by decide) rfl rfl (zg_gobj h2) (by simp [z_cat, z_catR, z_catI, z_catL]) (fun q55_12 eq55_12 => ?_)
        show Rn K _ 0 0 _ 58 [(0, .ref (kB K + 5)), (1, vG (kB K) x1), (2, vI x2), (3, vI x3), (4, vI q17_6), (5, vI q25_7)] [vI q55_12, .ref (kB K + 5)] (Zw (kE K) lt b1 c ms rd m P1)
        refine r_iload (pc := 58) X 4 dX0_turned_58 rfl ?_
        refine r_iload (pc := 60) X 5 dX0_turned_60 rfl ?_
        refine r_callV (pc := 62) (q0 := 5) (ci := 0) (As := [vI q55_12, vI q17_6, vI q25_7]) (rest := []) (W' := fun q62_13 => (Zw (kE K) lt q62_13.2 c ms rd m P1)) (rv := fun q62_13 => some (vI q62_13.1)) X dX0_turned_62 rfl (fun a ha => c_X0_put N lt b1 c ms rd m P1 q55_12 q17_6 q25_7 K.1.2.1 K.2.2.1.1 (kE K) a ha) (fun a => Zw_d _ _ _ _ _ _ _ _) gd_X0_60 rfl (n := 3) (by decide) rfl (by decide) rfl rfl rfl (Nat.zero_le _) (fun q62_13 eq62_13 => ?_)
        show Rn K _ 0 0 _ 65 [(0, .ref (kB K + 5)), (1, vG (kB K) x1), (2, vI x2), (3, vI x3), (4, vI q17_6), (5, vI q25_7)] [vI q62_13.1] (Zw (kE K) lt q62_13.2 c ms rd m P1)
        refine r_pop (pc := 65) X dX0_turned_65 rfl ?_
        refine r_iinc (pc := 66) (lv' := [(0, .ref (kB K + 5)), (1, vG (kB K) x1), (2, vI x2), (3, vI (x3 + 1)), (4, vI q17_6), (5, vI q25_7)]) X 3 [1, 2, 3, 0, 4, 5] dX0_turned_66 rfl (by decide) rfl ?_
        refine r_goto (pc := 69) X dX0_turned_69 (tgt := 6) (by decide) ?_
        refine r_sub [0, 1, 2, 3] rfl ?_
        exact ih (x3 + 1) q62_13.2
      · refine r_aload_n (pc := 39) X 0 dX0_turned_39 rfl rfl ?_
        refine r_iload_n (pc := 40) X 2 dX0_turned_40 rfl rfl ?_
        refine r_iload (pc := 41) X 5 dX0_turned_41 rfl ?_
        refine r_iload (pc := 43) X 4 dX0_turned_43 rfl ?_
        refine r_callV (pc := 45) (q0 := 5) (ci := 0) (As := [vI x2, vI q25_7, vI q17_6]) (rest := []) (W' := fun q45_14 => (Zw (kE K) lt q45_14.2 c ms rd m P1)) (rv := fun q45_14 => some (vI q45_14.1)) X dX0_turned_45 rfl (fun a ha => c_X0_put N lt b1 c ms rd m P1 x2 q25_7 q17_6 K.1.2.1 K.2.2.1.1 (kE K) a ha) (fun a => Zw_d _ _ _ _ _ _ _ _) gd_X0_60 rfl (n := 3) (by decide) rfl (by decide) rfl rfl rfl (Nat.zero_le _) (fun q45_14 eq45_14 => ?_)
        show Rn K _ 0 0 _ 48 [(0, .ref (kB K + 5)), (1, vG (kB K) x1), (2, vI x2), (3, vI x3), (4, vI q17_6), (5, vI q25_7)] [vI q45_14.1] (Zw (kE K) lt q45_14.2 c ms rd m P1)
        refine r_pop (pc := 48) X dX0_turned_48 rfl ?_
        refine r_goto (pc := 49) X dX0_turned_49 (tgt := 66) (by decide) ?_
        refine r_iinc (pc := 66) (lv' := [(0, .ref (kB K + 5)), (1, vG (kB K) x1), (2, vI x2), (3, vI (x3 + 1)), (4, vI q17_6), (5, vI q25_7)]) X 3 [1, 2, 3, 0, 4, 5] dX0_turned_66 rfl (by decide) rfl ?_
        refine r_goto (pc := 69) X dX0_turned_69 (tgt := 6) (by decide) ?_
        refine r_sub [0, 1, 2, 3] rfl ?_
        exact ih (x3 + 1) q45_14.2
set_option maxRecDepth 100000 in
set_option maxHeartbeats 4000000 in
theorem t_X0_turned (N : Nat) (lt b c ms rd m : Bd) (P : PL) (x1 x2 : Int) (K : KT) (X : Kok K cX0_turned yX0_turned.cls lw_g ({ frames := 5, cells := 2, slots := 122, locals := 118 } : Room) (some (.object "LoopTypes$Graph")) 6) : Rn K (Q_X0_turned K lt b c ms rd m P) 0 0 (f_X0_turned N b P x1 x2) 0 [(0, .ref (kB K + 5)), (1, vG (kB K) x1), (2, vI x2)] [] (Zw (kE K) lt b c ms rd m P) := by
  unfold f_X0_turned
  refine r_aload_n (pc := 0) X 0 dX0_turned_0 rfl rfl ?_
  refine r_callV (pc := 1) (q0 := 5) (ci := 0) (As := []) (rest := []) (W' := fun q1_1 => (Zw (kE K) lt q1_1 c ms rd m P)) (rv := fun q1_1 => none) X dX0_turned_1 rfl (fun a ha => c_X0_start N lt b c ms rd m P K.1.2.1 K.2.2.1.1 (kE K) a ha) (fun a => Zw_d _ _ _ _ _ _ _ _) gd_X0_64 rfl (n := 0) (by decide) rfl (by decide) rfl rfl rfl (Nat.zero_le _) (fun q1_1 eq1_1 => ?_)
  show Rn K _ 0 0 _ 4 [(0, .ref (kB K + 5)), (1, vG (kB K) x1), (2, vI x2)] [] (Zw (kE K) lt q1_1 c ms rd m P)
  refine r_iconst (pc := 4) X 0 dX0_turned_4 (by decide) ?_
  refine r_istore_n (pc := 5) (lv' := [(0, .ref (kB K + 5)), (1, vG (kB K) x1), (2, vI x2), (3, vI 0)]) X [1, 2, 3, 0] dX0_turned_5 rfl (by decide) rfl ?_
  refine t_X0_turned_L6 N lt b c ms rd m P P x1 x2 K X _ ?_ N 0 q1_1
  intro b_6
  refine r_aload_n (pc := 72) X 0 dX0_turned_72 rfl rfl ?_
  refine r_iconst (pc := 73) X 0 dX0_turned_73 (by decide) ?_
  refine r_callV (pc := 74) (q0 := 5) (ci := 0) (As := [vI 0]) (rest := []) (W' := fun q74_15 => (Zw (kE K) lt q74_15.2.1 c ms rd m q74_15.2.2)) (rv := fun q74_15 => some (vG (kB K) q74_15.1)) X dX0_turned_74 rfl (fun a ha => c_X0_smallest N lt b_6 c ms rd m P 0 K.1.2.1 K.2.2.1.1 (kE K) a ha) (fun a => Zw_d _ _ _ _ _ _ _ _) gd_X0_78 rfl (n := 1) (by decide) rfl (by decide) rfl rfl rfl (Nat.zero_le _) (fun q74_15 eq74_15 => ?_)
  show Rn K _ 2 122 _ 77 [(0, .ref (kB K + 5))] [vG (kB K) q74_15.1] (Zw (kE K) lt q74_15.2.1 c ms rd m q74_15.2.2)
  exact r_gret (pc := 77) X rfl rfl (by decide) dX0_turned_77
theorem c_X0_turned (N : Nat) (lt b c ms rd m : Bd) (P : PL) (x1 x2 : Int) (l : Launch) (D : va_G) (E : ET) (a : Int × Bd × PL) (ha : f_X0_turned N b P x1 x2 = some a) : Ct l yX0_turned (Cond.code yX0_turned cX0_turned 6 (some (.object "LoopTypes$Graph")) :: lw_g) ({ frames := 5, cells := 2, slots := 122, locals := 118 } : Room) D E [.ref (E.2.2.2 + 5), vG (E.2.2.2) x1, vI x2] (Zw E lt b c ms rd m P) (Zw E lt a.2.1 c ms rd m a.2.2) (some (vG E.2.2.2 a.1)) :=
  ct_of (av := fun E => [.ref (E.2.2.2 + 5), vG (E.2.2.2) x1, vI x2]) (W0 := fun E => Zw E lt b c ms rd m P) (W1 := fun E (a : Int × Bd × PL) => Zw E lt a.2.1 c ms rd m a.2.2) (rw := fun E a => some (vG E.2.2.2 a.1)) (by decide) rfl (fun E => Zw_d E lt b c ms rd m P) (fun E => by simp [lg_sl, z_cat, z_catR, z_catI, z_catL]) (fun K X => r_lv (by simp [lv_args, z_cat, z_catR, z_catI, z_catL]) (t_X0_turned N lt b c ms rd m P x1 x2 K X)) l D E a ha
abbrev Q_X0_drawn (K : KT) (lt b c ms rd m : Bd) (P : PL) : (Int × Bd × PL) → State → Prop := Qm K ({ frames := 5, cells := 2, slots := 122, locals := 118 } : Room) (fun a : Int × Bd × PL => Zw (kE K) lt a.2.1 c ms rd m a.2.2) (fun a => some (vG (kB K) a.1))
set_option maxRecDepth 100000 in
set_option maxHeartbeats 4000000 in
theorem t_X0_drawn_L17 (N : Nat) (lt b c ms rd m : Bd) (P : PL) (P1 : PL) (x2 : Int) (K : KT) (X : Kok K cX0_drawn yX0_drawn.cls lw_g ({ frames := 5, cells := 2, slots := 122, locals := 118 } : Room) (some (.object "LoopTypes$Graph")) 6) (k : Bd → Option (Int × Bd × PL)) (hk : ∀ (b1 : Bd), Rn K (Q_X0_drawn K lt b c ms rd m P) 0 0 (k b1) 76 [(0, .ref (kB K + 5))] [] (Zw (kE K) lt b1 c ms rd m P1)) : ∀ (n : Nat) (x3 : Int) (x5 : Int) (b1 : Bd), Rn K (Q_X0_drawn K lt b c ms rd m P) 0 0 (f_X0_drawn_L17 x2 k n x3 x5 b1) 17 [(0, .ref (kB K + 5)), (2, vI x2), (3, vL x3), (5, vI x5)] [] (Zw (kE K) lt b1 c ms rd m P1) := by
  intro n
  induction n with
  | zero =>
    intro x3 x5 b1
    rw [f_X0_drawn_L17]
    exact r_none
  | succ n ih =>
    intro x3 x5 b1
    rw [f_X0_drawn_L17]
    refine r_iload (pc := 17) X 3 dX0_drawn_17 rfl ?_
    refine r_iload_n (pc := 19) X 1 dX0_drawn_19 rfl rfl ?_
    refine r_ck1 (fun h5 => ?_)
    refine r_ck1 (fun h6 => ?_)
    refine r_icmp_ge (pc := 20) X h5 h6 dX0_drawn_20 (tgt := 76) (by decide) (fun h7 => ?_) (fun h7 => ?_)
    · refine r_sub [0] rfl ?_
      exact hk b1
    · refine r_lload_n (pc := 23) X 2 dX0_drawn_23 rfl rfl ?_
      refine r_ldc2 (pc := 24) X 1103515245 tk_X0_82 dX0_drawn_24 ?_
      refine r_lmul (pc := 27) X dX0_drawn_27 ?_
      refine r_ldc2 (pc := 28) X 12345 tk_X0_84 dX0_drawn_28 ?_
      refine r_ladd (pc := 31) X dX0_drawn_31 ?_
      refine r_ldc2 (pc := 32) X 2147483648 tk_X0_86 dX0_drawn_32 ?_
      refine r_ckL (fun h8 => ?_)
      refine r_lrem (pc := 35) X h8 (by decide) (by decide) dX0_drawn_35 ?_
      refine r_lstore_n (pc := 36) (lv' := [(0, .ref (kB K + 5)), (2, vI x2), (3, vL (Int.tmod ((x3 * 1103515245) + 12345) 2147483648)), (5, vI x5)]) X [1, 2, 0, 3] dX0_drawn_36 rfl (by decide) rfl ?_
      refine r_aload_n (pc := 37) X 0 dX0_drawn_37 rfl rfl ?_
      refine r_lload_n (pc := 38) X 2 dX0_drawn_38 rfl rfl ?_
      refine r_ldc2 (pc := 39) X 65536 tk_X0_88 dX0_drawn_39 ?_
      refine r_ckL (fun h9 => ?_)
      refine r_ldiv (pc := 42) X h9 (by decide) (by decide) dX0_drawn_42 ?_
      refine r_ldc2 (pc := 43) X 7 tk_X0_90 dX0_drawn_43 ?_
      refine r_ckL (fun h10 => ?_)
      refine r_lrem (pc := 46) X h10 (by decide) (by decide) dX0_drawn_46 ?_
      refine r_l2i (pc := 47) X dX0_drawn_47 ?_
      refine r_lload_n (pc := 48) X 2 dX0_drawn_48 rfl rfl ?_
      refine r_ldc2 (pc := 49) X 1024 tk_X0_92 dX0_drawn_49 ?_
      refine r_ldiv (pc := 52) X h9 (by decide) (by decide) dX0_drawn_52 ?_
      refine r_iload_n (pc := 53) X 1 dX0_drawn_53 rfl rfl ?_
      refine r_i2l (pc := 54) X h6 dX0_drawn_54 ?_
      refine r_ckL (fun h11 => ?_)
      refine r_ckL (fun h12 => ?_)
      refine r_ckZ (fun h13 => ?_)
      refine r_lrem (pc := 55) X h11 h12 h13 dX0_drawn_55 ?_
      refine r_l2i (pc := 56) X dX0_drawn_56 ?_
      refine r_lload_n (pc := 57) X 2 dX0_drawn_57 rfl rfl ?_
      refine r_ldc2 (pc := 58) X 32768 tk_X0_94 dX0_drawn_58 ?_
      refine r_ldiv (pc := 61) X h9 (by decide) (by decide) dX0_drawn_61 ?_
      refine r_iload_n (pc := 62) X 1 dX0_drawn_62 rfl rfl ?_
      refine r_i2l (pc := 63) X h6 dX0_drawn_63 ?_
      refine r_ckL (fun h14 => ?_)
      refine r_lrem (pc := 64) X h14 h12 h13 dX0_drawn_64 ?_
      refine r_l2i (pc := 65) X dX0_drawn_65 ?_
      refine r_callV (pc := 66) (q0 := 5) (ci := 0) (As := [vI (Int.tmod (Int.tdiv (Int.tmod ((x3 * 1103515245) + 12345) 2147483648) 65536) 7), vI (Int.tmod (Int.tdiv (Int.tmod ((x3 * 1103515245) + 12345) 2147483648) 1024) x2), vI (Int.tmod (Int.tdiv (Int.tmod ((x3 * 1103515245) + 12345) 2147483648) 32768) x2)]) (rest := []) (W' := fun q66_15 => (Zw (kE K) lt q66_15.2 c ms rd m P1)) (rv := fun q66_15 => some (vI q66_15.1)) X dX0_drawn_66 rfl (fun a ha => c_X0_put N lt b1 c ms rd m P1 (Int.tmod (Int.tdiv (Int.tmod ((x3 * 1103515245) + 12345) 2147483648) 65536) 7) (Int.tmod (Int.tdiv (Int.tmod ((x3 * 1103515245) + 12345) 2147483648) 1024) x2) (Int.tmod (Int.tdiv (Int.tmod ((x3 * 1103515245) + 12345) 2147483648) 32768) x2) K.1.2.1 K.2.2.1.1 (kE K) a ha) (fun a => Zw_d _ _ _ _ _ _ _ _) gd_X0_60 rfl (n := 3) (by decide) rfl (by decide) rfl rfl rfl (Nat.zero_le _) (fun q66_15 eq66_15 => ?_)
      show Rn K _ 0 0 _ 69 [(0, .ref (kB K + 5)), (2, vI x2), (3, vL (Int.tmod ((x3 * 1103515245) + 12345) 2147483648)), (5, vI x5)] [vI q66_15.1] (Zw (kE K) lt q66_15.2 c ms rd m P1)
      refine r_pop (pc := 69) X dX0_drawn_69 rfl ?_
      refine r_iinc (pc := 70) (lv' := [(0, .ref (kB K + 5)), (2, vI x2), (3, vL (Int.tmod ((x3 * 1103515245) + 12345) 2147483648)), (5, vI (x5 + 1))]) X 3 [1, 2, 3, 0] dX0_drawn_70 rfl (by decide) rfl ?_
      refine r_goto (pc := 73) X dX0_drawn_73 (tgt := 17) (by decide) ?_
      exact ih (Int.tmod ((x3 * 1103515245) + 12345) 2147483648) (x5 + 1) q66_15.2
set_option maxRecDepth 100000 in
set_option maxHeartbeats 4000000 in
theorem t_X0_drawn (N : Nat) (lt b c ms rd m : Bd) (P : PL) (x1 x2 : Int) (K : KT) (X : Kok K cX0_drawn yX0_drawn.cls lw_g ({ frames := 5, cells := 2, slots := 122, locals := 118 } : Room) (some (.object "LoopTypes$Graph")) 6) : Rn K (Q_X0_drawn K lt b c ms rd m P) 0 0 (f_X0_drawn N b P x1 x2) 0 [(0, .ref (kB K + 5)), (1, vI x1), (2, vI x2)] [] (Zw (kE K) lt b c ms rd m P) := by
  unfold f_X0_drawn
  refine r_aload_n (pc := 0) X 0 dX0_drawn_0 rfl rfl ?_
  refine r_callV (pc := 1) (q0 := 5) (ci := 0) (As := []) (rest := []) (W' := fun q1_1 => (Zw (kE K) lt q1_1 c ms rd m P)) (rv := fun q1_1 => none) X dX0_drawn_1 rfl (fun a ha => c_X0_start N lt b c ms rd m P K.1.2.1 K.2.2.1.1 (kE K) a ha) (fun a => Zw_d _ _ _ _ _ _ _ _) gd_X0_64 rfl (n := 0) (by decide) rfl (by decide) rfl rfl rfl (Nat.zero_le _) (fun q1_1 eq1_1 => ?_)
  show Rn K _ 0 0 _ 4 [(0, .ref (kB K + 5)), (1, vI x1), (2, vI x2)] [] (Zw (kE K) lt q1_1 c ms rd m P)
  refine r_iload_n (pc := 4) X 2 dX0_drawn_4 rfl rfl ?_
  refine r_iconst (pc := 5) X 1 dX0_drawn_5 (by decide) ?_
  refine r_ck1 (fun h2 => ?_)
  refine r_icmp_ge (pc := 6) X h2 (by decide) dX0_drawn_6 (tgt := 11) (by decide) (fun h3 => ?_) (fun h3 => ?_)
  · refine r_iload_n (pc := 11) X 1 dX0_drawn_11 rfl rfl ?_
    refine r_ck1 (fun h4 => ?_)
    refine r_i2l (pc := 12) X h4 dX0_drawn_12 ?_
    refine r_lstore_n (pc := 13) (lv' := [(0, .ref (kB K + 5)), (1, vI x1), (2, vI x2), (3, vL x1)]) X [1, 2, 3, 0] dX0_drawn_13 rfl (by decide) rfl ?_
    refine r_iconst (pc := 14) X 0 dX0_drawn_14 (by decide) ?_
    refine r_istore (pc := 15) (lv' := [(0, .ref (kB K + 5)), (1, vI x1), (2, vI x2), (3, vL x1), (5, vI 0)]) X [1, 2, 3, 4, 0] dX0_drawn_15 (by decide) rfl ?_
    refine r_sub [0, 2, 3, 4] rfl ?_
    refine t_X0_drawn_L17 N lt b c ms rd m P P x2 K X _ ?_ N x1 0 q1_1
    intro b_17
    refine r_aload_n (pc := 76) X 0 dX0_drawn_76 rfl rfl ?_
    refine r_iconst (pc := 77) X 0 dX0_drawn_77 (by decide) ?_
    refine r_callV (pc := 78) (q0 := 5) (ci := 0) (As := [vI 0]) (rest := []) (W' := fun q78_16 => (Zw (kE K) lt q78_16.2.1 c ms rd m q78_16.2.2)) (rv := fun q78_16 => some (vG (kB K) q78_16.1)) X dX0_drawn_78 rfl (fun a ha => c_X0_smallest N lt b_17 c ms rd m P 0 K.1.2.1 K.2.2.1.1 (kE K) a ha) (fun a => Zw_d _ _ _ _ _ _ _ _) gd_X0_78 rfl (n := 1) (by decide) rfl (by decide) rfl rfl rfl (Nat.zero_le _) (fun q78_16 eq78_16 => ?_)
    show Rn K _ 2 122 _ 81 [(0, .ref (kB K + 5))] [vG (kB K) q78_16.1] (Zw (kE K) lt q78_16.2.1 c ms rd m q78_16.2.2)
    exact r_gret (pc := 81) X rfl rfl (by decide) dX0_drawn_81
  · refine r_gnull (pc := 9) (B := kB K) X dX0_drawn_9 ?_
    exact r_gret (pc := 10) X rfl rfl (by decide) dX0_drawn_10
theorem c_X0_drawn (N : Nat) (lt b c ms rd m : Bd) (P : PL) (x1 x2 : Int) (l : Launch) (D : va_G) (E : ET) (a : Int × Bd × PL) (ha : f_X0_drawn N b P x1 x2 = some a) : Ct l yX0_drawn (Cond.code yX0_drawn cX0_drawn 6 (some (.object "LoopTypes$Graph")) :: lw_g) ({ frames := 5, cells := 2, slots := 122, locals := 118 } : Room) D E [.ref (E.2.2.2 + 5), vI x1, vI x2] (Zw E lt b c ms rd m P) (Zw E lt a.2.1 c ms rd m a.2.2) (some (vG E.2.2.2 a.1)) :=
  ct_of (av := fun E => [.ref (E.2.2.2 + 5), vI x1, vI x2]) (W0 := fun E => Zw E lt b c ms rd m P) (W1 := fun E (a : Int × Bd × PL) => Zw E lt a.2.1 c ms rd m a.2.2) (rw := fun E a => some (vG E.2.2.2 a.1)) (by decide) rfl (fun E => Zw_d E lt b c ms rd m P) (fun E => by simp [lg_sl, z_cat, z_catR, z_catI, z_catL]) (fun K X => r_lv (by simp [lv_args, z_cat, z_catR, z_catI, z_catL]) (t_X0_drawn N lt b c ms rd m P x1 x2 K X)) l D E a ha
