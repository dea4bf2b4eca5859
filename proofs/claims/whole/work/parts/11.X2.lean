abbrev Q_X2_holds (K : KT) (lt b c ms rd m : Bd) (P : PL) : (Int) → State → Prop := Qm K ({ frames := 0, cells := 0, slots := 0, locals := 0 } : Room) (fun a : Int => Zw (kE K) lt b c ms rd m P) (fun a => some (vI a))
set_option maxRecDepth 100000 in
set_option maxHeartbeats 4000000 in
theorem t_X2_holds (N : Nat) (lt b c ms rd m : Bd) (P : PL) (h : Int) (hh : 0 ≤ h ∧ h < (P.length : Int)) (x1 : Int) (K : KT) (X : Kok K cX2_holds yX2_holds.cls lw_g ({ frames := 0, cells := 0, slots := 0, locals := 0 } : Room) (some .boolean) 2) : Rn K (Q_X2_holds K lt b c ms rd m P) 0 0 (f_X2_holds P h x1) 0 [(0, .ref (kB K + 62 + 2 * (h).toNat)), (1, vI x1)] [] (Zw (kE K) lt b c ms rd m P) := by
  unfold f_X2_holds
  refine r_iload_n (pc := 0) X 1 dX2_holds_0 rfl rfl ?_
  refine r_ck1 (fun h1 => ?_)
  refine r_iflt (pc := 1) X h1 dX2_holds_1 (tgt := 16) (by decide) (fun h2 => ?_) (fun h2 => ?_)
  · refine r_iconst (pc := 16) X 0 dX2_holds_16 (by decide) ?_
    exact r_zret (pc := 17) X (by decide) rfl rfl (by decide) dX2_holds_17
  · refine r_iload_n (pc := 4) X 1 dX2_holds_4 rfl rfl ?_
    refine r_aload_n (pc := 5) X 0 dX2_holds_5 rfl rfl ?_
    refine r_get (pc := 6) (v := vI ((gP P h).1)) X (62 + 2 * (h).toNat) 0 inX2 (zg_gobj hh) rfl (by decide) tf_X2_15 rfl dX2_holds_6 ?_
    refine r_ck1 (fun h3 => ?_)
    refine r_icmp_ge (pc := 9) X h1 h3 dX2_holds_9 (tgt := 16) (by decide) (fun h4 => ?_) (fun h4 => ?_)
    · refine r_iconst (pc := 16) X 0 dX2_holds_16 (by decide) ?_
      exact r_zret (pc := 17) X (by decide) rfl rfl (by decide) dX2_holds_17
    · refine r_iconst (pc := 12) X 1 dX2_holds_12 (by decide) ?_
      refine r_goto (pc := 13) X dX2_holds_13 (tgt := 17) (by decide) ?_
      exact r_zret (pc := 17) X (by decide) rfl rfl (by decide) dX2_holds_17
theorem c_X2_holds (N : Nat) (lt b c ms rd m : Bd) (P : PL) (h : Int) (hh : 0 ≤ h ∧ h < (P.length : Int)) (x1 : Int) (l : Launch) (D : va_G) (E : ET) (a : Int) (ha : f_X2_holds P h x1 = some a) : Ct l yX2_holds (Cond.code yX2_holds cX2_holds 2 (some .boolean) :: lw_g) ({ frames := 0, cells := 0, slots := 0, locals := 0 } : Room) D E [.ref (E.2.2.2 + 62 + 2 * (h).toNat), vI x1] (Zw E lt b c ms rd m P) (Zw E lt b c ms rd m P) (some (vI a)) :=
  ct_of (av := fun E => [.ref (E.2.2.2 + 62 + 2 * (h).toNat), vI x1]) (W0 := fun E => Zw E lt b c ms rd m P) (W1 := fun E (a : Int) => Zw E lt b c ms rd m P) (rw := fun E a => some (vI a)) (by decide) rfl (fun E => Zw_d E lt b c ms rd m P) (fun E => by simp [lg_sl, z_cat, z_catR, z_catI, z_catL]) (fun K X => r_lv (by simp [lv_args, z_cat, z_catR, z_catI, z_catL]) (t_X2_holds N lt b c ms rd m P h hh x1 K X)) l D E a ha
abbrev Q_X2_headAt (K : KT) (lt b c ms rd m : Bd) (P : PL) : (Int) → State → Prop := Qm K ({ frames := 1, cells := 0, slots := 0, locals := 21 } : Room) (fun a : Int => Zw (kE K) lt b c ms rd m P) (fun a => some (vI a))
set_option maxRecDepth 100000 in
set_option maxHeartbeats 4000000 in
theorem t_X2_headAt (N : Nat) (lt b c ms rd m : Bd) (P : PL) (h : Int) (hh : 0 ≤ h ∧ h < (P.length : Int)) (x1 : Int) (K : KT) (X : Kok K cX2_headAt yX2_headAt.cls lw_g ({ frames := 1, cells := 0, slots := 0, locals := 21 } : Room) (some .int) 2) : Rn K (Q_X2_headAt K lt b c ms rd m P) 0 0 (f_X2_headAt P h x1) 0 [(0, .ref (kB K + 62 + 2 * (h).toNat)), (1, vI x1)] [] (Zw (kE K) lt b c ms rd m P) := by
  unfold f_X2_headAt
  refine r_aload_n (pc := 0) X 0 dX2_headAt_0 rfl rfl ?_
  refine r_iload_n (pc := 1) X 1 dX2_headAt_1 rfl rfl ?_
  refine r_callV (pc := 2) (q0 := (62 + 2 * (h).toNat)) (ci := 2) (As := [vI x1]) (rest := []) (W' := fun q2_1 => (Zw (kE K) lt b c ms rd m P)) (rv := fun q2_1 => some (vI q2_1)) X dX2_headAt_2 rfl (fun a ha => c_X2_holds N lt b c ms rd m P h hh x1 K.1.2.1 K.2.2.1.1 (kE K) a ha) (fun a => Zw_d _ _ _ _ _ _ _ _) gd_X2_19 rfl (n := 1) (by decide) rfl (by decide) rfl rfl (zg_gobj hh) (Nat.zero_le _) (fun q2_1 eq2_1 => ?_)
  show Rn K _ 0 0 _ 5 [(0, .ref (kB K + 62 + 2 * (h).toNat)), (1, vI x1)] [vI q2_1] (Zw (kE K) lt b c ms rd m P)
  refine r_ck1 (fun h2 => ?_)
  refine r_ifeq (pc := 5) X h2 dX2_headAt_5 (tgt := 19) (by decide) (fun h3 => ?_) (fun h3 => ?_)
  · refine r_iconst (pc := 19) X 0 dX2_headAt_19 (by decide) ?_
    exact r_iret (pc := 20) X rfl rfl (by decide) dX2_headAt_20
  · refine r_aload_n (pc := 8) X 0 dX2_headAt_8 rfl rfl ?_
    refine r_get (pc := 9) (v := .ref (kB K + 61 + 2 * (h).toNat)) X (62 + 2 * (h).toNat) 1 inX2 (zg_gobj hh) rfl (by decide) tf_X2_9 rfl dX2_headAt_9 ?_
    refine r_iconst (pc := 12) X 3 dX2_headAt_12 (by decide) ?_
    refine r_iload_n (pc := 13) X 1 dX2_headAt_13 rfl rfl ?_
    refine r_imul (pc := 14) X dX2_headAt_14 ?_
    refine r_ckA (fun h4 => ?_)
    refine r_ck1 (fun h5 => ?_)
    refine r_ialdG (pc := 15) X (61 + 2 * (h).toNat) h4 h5 (zg_garr hh) dX2_headAt_15 ?_
    refine r_goto (pc := 16) X dX2_headAt_16 (tgt := 20) (by decide) ?_
    exact r_iret (pc := 20) X rfl rfl (by decide) dX2_headAt_20
theorem c_X2_headAt (N : Nat) (lt b c ms rd m : Bd) (P : PL) (h : Int) (hh : 0 ≤ h ∧ h < (P.length : Int)) (x1 : Int) (l : Launch) (D : va_G) (E : ET) (a : Int) (ha : f_X2_headAt P h x1 = some a) : Ct l yX2_headAt (Cond.code yX2_headAt cX2_headAt 2 (some .int) :: lw_g) ({ frames := 1, cells := 0, slots := 0, locals := 21 } : Room) D E [.ref (E.2.2.2 + 62 + 2 * (h).toNat), vI x1] (Zw E lt b c ms rd m P) (Zw E lt b c ms rd m P) (some (vI a)) :=
  ct_of (av := fun E => [.ref (E.2.2.2 + 62 + 2 * (h).toNat), vI x1]) (W0 := fun E => Zw E lt b c ms rd m P) (W1 := fun E (a : Int) => Zw E lt b c ms rd m P) (rw := fun E a => some (vI a)) (by decide) rfl (fun E => Zw_d E lt b c ms rd m P) (fun E => by simp [lg_sl, z_cat, z_catR, z_catI, z_catL]) (fun K X => r_lv (by simp [lv_args, z_cat, z_catR, z_catI, z_catL]) (t_X2_headAt N lt b c ms rd m P h hh x1 K X)) l D E a ha
abbrev Q_X2_partAt (K : KT) (lt b c ms rd m : Bd) (P : PL) : (Int) → State → Prop := Qm K ({ frames := 1, cells := 0, slots := 0, locals := 21 } : Room) (fun a : Int => Zw (kE K) lt b c ms rd m P) (fun a => some (vI a))
set_option maxRecDepth 100000 in
set_option maxHeartbeats 4000000 in
theorem t_X2_partAt (N : Nat) (lt b c ms rd m : Bd) (P : PL) (h : Int) (hh : 0 ≤ h ∧ h < (P.length : Int)) (x1 x2 : Int) (K : KT) (X : Kok K cX2_partAt yX2_partAt.cls lw_g ({ frames := 1, cells := 0, slots := 0, locals := 21 } : Room) (some .int) 3) : Rn K (Q_X2_partAt K lt b c ms rd m P) 0 0 (f_X2_partAt P h x1 x2) 0 [(0, .ref (kB K + 62 + 2 * (h).toNat)), (1, vI x1), (2, vI x2)] [] (Zw (kE K) lt b c ms rd m P) := by
  unfold f_X2_partAt
  refine r_aload_n (pc := 0) X 0 dX2_partAt_0 rfl rfl ?_
  refine r_iload_n (pc := 1) X 1 dX2_partAt_1 rfl rfl ?_
  refine r_callV (pc := 2) (q0 := (62 + 2 * (h).toNat)) (ci := 2) (As := [vI x1]) (rest := []) (W' := fun q2_1 => (Zw (kE K) lt b c ms rd m P)) (rv := fun q2_1 => some (vI q2_1)) X dX2_partAt_2 rfl (fun a ha => c_X2_holds N lt b c ms rd m P h hh x1 K.1.2.1 K.2.2.1.1 (kE K) a ha) (fun a => Zw_d _ _ _ _ _ _ _ _) gd_X2_19 rfl (n := 1) (by decide) rfl (by decide) rfl rfl (zg_gobj hh) (Nat.zero_le _) (fun q2_1 eq2_1 => ?_)
  show Rn K _ 0 0 _ 5 [(0, .ref (kB K + 62 + 2 * (h).toNat)), (1, vI x1), (2, vI x2)] [vI q2_1] (Zw (kE K) lt b c ms rd m P)
  refine r_ck1 (fun h2 => ?_)
  refine r_ifeq (pc := 5) X h2 dX2_partAt_5 (tgt := 32) (by decide) (fun h3 => ?_) (fun h3 => ?_)
  · refine r_iconst (pc := 32) X 0 dX2_partAt_32 (by decide) ?_
    exact r_iret (pc := 33) X rfl rfl (by decide) dX2_partAt_33
  · refine r_iload_n (pc := 8) X 2 dX2_partAt_8 rfl rfl ?_
    refine r_ck1 (fun h4 => ?_)
    refine r_iflt (pc := 9) X h4 dX2_partAt_9 (tgt := 32) (by decide) (fun h5 => ?_) (fun h5 => ?_)
    · refine r_iconst (pc := 32) X 0 dX2_partAt_32 (by decide) ?_
      exact r_iret (pc := 33) X rfl rfl (by decide) dX2_partAt_33
    · refine r_iload_n (pc := 12) X 2 dX2_partAt_12 rfl rfl ?_
      refine r_iconst (pc := 13) X 2 dX2_partAt_13 (by decide) ?_
      refine r_icmp_ge (pc := 14) X h4 (by decide) dX2_partAt_14 (tgt := 32) (by decide) (fun h6 => ?_) (fun h6 => ?_)
      · refine r_iconst (pc := 32) X 0 dX2_partAt_32 (by decide) ?_
        exact r_iret (pc := 33) X rfl rfl (by decide) dX2_partAt_33
      · refine r_aload_n (pc := 17) X 0 dX2_partAt_17 rfl rfl ?_
        refine r_get (pc := 18) (v := .ref (kB K + 61 + 2 * (h).toNat)) X (62 + 2 * (h).toNat) 1 inX2 (zg_gobj hh) rfl (by decide) tf_X2_9 rfl dX2_partAt_18 ?_
        refine r_iconst (pc := 21) X 3 dX2_partAt_21 (by decide) ?_
        refine r_iload_n (pc := 22) X 1 dX2_partAt_22 rfl rfl ?_
        refine r_imul (pc := 23) X dX2_partAt_23 ?_
        refine r_iconst (pc := 24) X 1 dX2_partAt_24 (by decide) ?_
        refine r_iadd (pc := 25) X dX2_partAt_25 ?_
        refine r_iload_n (pc := 26) X 2 dX2_partAt_26 rfl rfl ?_
        refine r_iadd (pc := 27) X dX2_partAt_27 ?_
        refine r_ckA (fun h7 => ?_)
        refine r_ck1 (fun h8 => ?_)
        refine r_ialdG (pc := 28) X (61 + 2 * (h).toNat) h7 h8 (zg_garr hh) dX2_partAt_28 ?_
        refine r_goto (pc := 29) X dX2_partAt_29 (tgt := 33) (by decide) ?_
        exact r_iret (pc := 33) X rfl rfl (by decide) dX2_partAt_33
theorem c_X2_partAt (N : Nat) (lt b c ms rd m : Bd) (P : PL) (h : Int) (hh : 0 ≤ h ∧ h < (P.length : Int)) (x1 x2 : Int) (l : Launch) (D : va_G) (E : ET) (a : Int) (ha : f_X2_partAt P h x1 x2 = some a) : Ct l yX2_partAt (Cond.code yX2_partAt cX2_partAt 3 (some .int) :: lw_g) ({ frames := 1, cells := 0, slots := 0, locals := 21 } : Room) D E [.ref (E.2.2.2 + 62 + 2 * (h).toNat), vI x1, vI x2] (Zw E lt b c ms rd m P) (Zw E lt b c ms rd m P) (some (vI a)) :=
  ct_of (av := fun E => [.ref (E.2.2.2 + 62 + 2 * (h).toNat), vI x1, vI x2]) (W0 := fun E => Zw E lt b c ms rd m P) (W1 := fun E (a : Int) => Zw E lt b c ms rd m P) (rw := fun E a => some (vI a)) (by decide) rfl (fun E => Zw_d E lt b c ms rd m P) (fun E => by simp [lg_sl, z_cat, z_catR, z_catI, z_catL]) (fun K X => r_lv (by simp [lv_args, z_cat, z_catR, z_catI, z_catL]) (t_X2_partAt N lt b c ms rd m P h hh x1 x2 K X)) l D E a ha
abbrev Q_X5_partsOf (K : KT) (lt b c ms rd m : Bd) (P : PL) : (Int) → State → Prop := Qm K ({ frames := 0, cells := 0, slots := 0, locals := 0 } : Room) (fun a : Int => Zw (kE K) lt b c ms rd m P) (fun a => some (vI a))
set_option maxRecDepth 100000 in
set_option maxHeartbeats 4000000 in
theorem t_X5_partsOf (N : Nat) (lt b c ms rd m : Bd) (P : PL) (x0 : Int) (K : KT) (X : Kok K cX5_partsOf yX5_partsOf.cls lw_g ({ frames := 0, cells := 0, slots := 0, locals := 0 } : Room) (some .int) 1) : Rn K (Q_X5_partsOf K lt b c ms rd m P) 0 0 (f_X5_partsOf x0) 0 [(0, vI x0)] [] (Zw (kE K) lt b c ms rd m P) := by
  unfold f_X5_partsOf
  refine r_iload_n (pc := 0) X 0 dX5_partsOf_0 rfl rfl ?_
  refine r_iconst (pc := 1) X 4 dX5_partsOf_1 (by decide) ?_
  refine r_ck1 (fun h1 => ?_)
  refine r_icmp_ge (pc := 2) X h1 (by decide) dX5_partsOf_2 (tgt := 7) (by decide) (fun h2 => ?_) (fun h2 => ?_)
  · refine r_iload_n (pc := 7) X 0 dX5_partsOf_7 rfl rfl ?_
    refine r_iconst (pc := 8) X 4 dX5_partsOf_8 (by decide) ?_
    refine r_jn (J := fun j17 => ∀ (s_17 : Int), Rn K (Q_X5_partsOf K lt b c ms rd m P) 0 0 (j17 s_17) 17 [(0, vI x0)] [vI s_17] (Zw (kE K) lt b c ms rd m P)) ?_ (fun j17 hj17 => ?_)
    · intro s_17
      exact r_iret (pc := 17) X rfl rfl (by decide) dX5_partsOf_17
    refine r_eq (z_ite j17) ?_
    refine r_icmp_ne (pc := 9) X h1 (by decide) dX5_partsOf_9 (tgt := 16) (by decide) (fun h3 => ?_) (fun h3 => ?_)
    · refine r_iconst (pc := 16) X 2 dX5_partsOf_16 (by decide) ?_
      exact hj17 2
    · refine r_iconst (pc := 12) X 1 dX5_partsOf_12 (by decide) ?_
      refine r_goto (pc := 13) X dX5_partsOf_13 (tgt := 17) (by decide) ?_
      exact hj17 1
  · refine r_iconst (pc := 5) X 0 dX5_partsOf_5 (by decide) ?_
    exact r_iret (pc := 6) X rfl rfl (by decide) dX5_partsOf_6
theorem c_X5_partsOf (N : Nat) (lt b c ms rd m : Bd) (P : PL) (x0 : Int) (l : Launch) (D : va_G) (E : ET) (a : Int) (ha : f_X5_partsOf x0 = some a) : Ct l yX5_partsOf (Cond.code yX5_partsOf cX5_partsOf 1 (some .int) :: lw_g) ({ frames := 0, cells := 0, slots := 0, locals := 0 } : Room) D E [vI x0] (Zw E lt b c ms rd m P) (Zw E lt b c ms rd m P) (some (vI a)) :=
  ct_of (av := fun E => [vI x0]) (W0 := fun E => Zw E lt b c ms rd m P) (W1 := fun E (a : Int) => Zw E lt b c ms rd m P) (rw := fun E a => some (vI a)) (by decide) rfl (fun E => Zw_d E lt b c ms rd m P) (fun E => by simp [lg_sl, z_cat, z_catR, z_catI, z_catL]) (fun K X => r_lv (by simp [lv_args, z_cat, z_catR, z_catI, z_catL]) (t_X5_partsOf N lt b c ms rd m P x0 K X)) l D E a ha
abbrev Q_X2_partCount (K : KT) (lt b c ms rd m : Bd) (P : PL) : (Int) → State → Prop := Qm K ({ frames := 2, cells := 0, slots := 0, locals := 42 } : Room) (fun a : Int => Zw (kE K) lt b c ms rd m P) (fun a => some (vI a))
set_option maxRecDepth 100000 in
set_option maxHeartbeats 4000000 in
theorem t_X2_partCount (N : Nat) (lt b c ms rd m : Bd) (P : PL) (h : Int) (hh : 0 ≤ h ∧ h < (P.length : Int)) (x1 : Int) (K : KT) (X : Kok K cX2_partCount yX2_partCount.cls lw_g ({ frames := 2, cells := 0, slots := 0, locals := 42 } : Room) (some .int) 2) : Rn K (Q_X2_partCount K lt b c ms rd m P) 0 0 (f_X2_partCount P h x1) 0 [(0, .ref (kB K + 62 + 2 * (h).toNat)), (1, vI x1)] [] (Zw (kE K) lt b c ms rd m P) := by
  unfold f_X2_partCount
  refine r_aload_n (pc := 0) X 0 dX2_partCount_0 rfl rfl ?_
  refine r_iload_n (pc := 1) X 1 dX2_partCount_1 rfl rfl ?_
  refine r_callV (pc := 2) (q0 := (62 + 2 * (h).toNat)) (ci := 2) (As := [vI x1]) (rest := []) (W' := fun q2_1 => (Zw (kE K) lt b c ms rd m P)) (rv := fun q2_1 => some (vI q2_1)) X dX2_partCount_2 rfl (fun a ha => c_X2_headAt N lt b c ms rd m P h hh x1 K.1.2.1 K.2.2.1.1 (kE K) a ha) (fun a => Zw_d _ _ _ _ _ _ _ _) gd_X2_23 rfl (n := 1) (by decide) rfl (by decide) rfl rfl (zg_gobj hh) (Nat.zero_le _) (fun q2_1 eq2_1 => ?_)
  show Rn K _ 0 0 _ 5 [(0, .ref (kB K + 62 + 2 * (h).toNat)), (1, vI x1)] [vI q2_1] (Zw (kE K) lt b c ms rd m P)
  refine r_callN (pc := 5) (As := [vI q2_1]) (rest := []) (W' := fun q5_2 => (Zw (kE K) lt b c ms rd m P)) (rv := fun q5_2 => some (vI q5_2)) X dX2_partCount_5 rfl (fun a ha => c_X5_partsOf N lt b c ms rd m P q2_1 K.1.2.1 K.2.2.1.1 (kE K) a ha) (fun a => Zw_d _ _ _ _ _ _ _ _) (gd_c tc_X5_partsOf) (by decide) tt_X5_partsOf tn_RX5 rfl (n := 1) (by decide) rfl (by decide) (Nat.zero_le _) (fun q5_2 eq5_2 => ?_)
  show Rn K _ 0 0 _ 8 [(0, .ref (kB K + 62 + 2 * (h).toNat)), (1, vI x1)] [vI q5_2] (Zw (kE K) lt b c ms rd m P)
  exact r_iret (pc := 8) X rfl rfl (by decide) dX2_partCount_8
theorem c_X2_partCount (N : Nat) (lt b c ms rd m : Bd) (P : PL) (h : Int) (hh : 0 ≤ h ∧ h < (P.length : Int)) (x1 : Int) (l : Launch) (D : va_G) (E : ET) (a : Int) (ha : f_X2_partCount P h x1 = some a) : Ct l yX2_partCount (Cond.code yX2_partCount cX2_partCount 2 (some .int) :: lw_g) ({ frames := 2, cells := 0, slots := 0, locals := 42 } : Room) D E [.ref (E.2.2.2 + 62 + 2 * (h).toNat), vI x1] (Zw E lt b c ms rd m P) (Zw E lt b c ms rd m P) (some (vI a)) :=
  ct_of (av := fun E => [.ref (E.2.2.2 + 62 + 2 * (h).toNat), vI x1]) (W0 := fun E => Zw E lt b c ms rd m P) (W1 := fun E (a : Int) => Zw E lt b c ms rd m P) (rw := fun E a => some (vI a)) (by decide) rfl (fun E => Zw_d E lt b c ms rd m P) (fun E => by simp [lg_sl, z_cat, z_catR, z_catI, z_catL]) (fun K X => r_lv (by simp [lv_args, z_cat, z_catR, z_catI, z_catL]) (t_X2_partCount N lt b c ms rd m P h hh x1 K X)) l D E a ha
abbrev Q_X2_sameAs (K : KT) (lt b c ms rd m : Bd) (P : PL) : (Int) → State → Prop := Qm K ({ frames := 2, cells := 0, slots := 0, locals := 43 } : Room) (fun a : Int => Zw (kE K) lt b c ms rd m P) (fun a => some (vI a))
set_option maxRecDepth 100000 in
set_option maxHeartbeats 4000000 in
theorem t_X2_sameAs_L15 (N : Nat) (lt b c ms rd m : Bd) (P : PL) (h : Int) (hh : 0 ≤ h ∧ h < (P.length : Int)) (x1 : Int) (K : KT) (X : Kok K cX2_sameAs yX2_sameAs.cls lw_g ({ frames := 2, cells := 0, slots := 0, locals := 43 } : Room) (some .boolean) 3) (k : Option (Int)) (hk : Rn K (Q_X2_sameAs K lt b c ms rd m P) 0 0 k 74 [] [] (Zw (kE K) lt b c ms rd m P)) : ∀ (n : Nat) (x2 : Int), Rn K (Q_X2_sameAs K lt b c ms rd m P) 0 0 (f_X2_sameAs_L15 P h x1 k n x2) 15 [(0, .ref (kB K + 62 + 2 * (h).toNat)), (1, vG (kB K) x1), (2, vI x2)] [] (Zw (kE K) lt b c ms rd m P) := by
  intro n
  induction n with
  | zero =>
    intro x2
    rw [f_X2_sameAs_L15]
    exact r_none
  | succ n ih =>
    intro x2
    rw [f_X2_sameAs_L15]
    refine r_iload_n (pc := 15) X 2 dX2_sameAs_15 rfl rfl ?_
    refine r_aload_n (pc := 16) X 0 dX2_sameAs_16 rfl rfl ?_
    refine r_get (pc := 17) (v := vI ((gP P h).1)) X (62 + 2 * (h).toNat) 0 inX2 (zg_gobj hh) rfl (by decide) tf_X2_15 rfl dX2_sameAs_17 ?_
    refine r_ck1 (fun h5 => ?_)
    refine r_ck1 (fun h6 => ?_)
    refine r_icmp_ge (pc := 20) X h5 h6 dX2_sameAs_20 (tgt := 74) (by decide) (fun h7 => ?_) (fun h7 => ?_)
    · refine r_sub [] rfl ?_
      exact hk
    · refine r_aload_n (pc := 23) X 0 dX2_sameAs_23 rfl rfl ?_
      refine r_iload_n (pc := 24) X 2 dX2_sameAs_24 rfl rfl ?_
      refine r_callV (pc := 25) (q0 := (62 + 2 * (h).toNat)) (ci := 2) (As := [vI x2]) (rest := []) (W' := fun q25_8 => (Zw (kE K) lt b c ms rd m P)) (rv := fun q25_8 => some (vI q25_8)) X dX2_sameAs_25 rfl (fun a ha => c_X2_headAt N lt b c ms rd m P h hh x2 K.1.2.1 K.2.2.1.1 (kE K) a ha) (fun a => Zw_d _ _ _ _ _ _ _ _) gd_X2_23 rfl (n := 1) (by decide) rfl (by decide) rfl rfl (zg_gobj hh) (Nat.zero_le _) (fun q25_8 eq25_8 => ?_)
      show Rn K _ 0 0 _ 28 [(0, .ref (kB K + 62 + 2 * (h).toNat)), (1, vG (kB K) x1), (2, vI x2)] [vI q25_8] (Zw (kE K) lt b c ms rd m P)
      refine r_gload_n (pc := 28) X 1 dX2_sameAs_28 rfl rfl ?_
      refine r_iload_n (pc := 29) X 2 dX2_sameAs_29 rfl rfl ?_
      refine r_ckG (fun h9 => ?_)
      refine r_rf1 h9.1 ?_
      refine r_callV (pc := 30) (q0 := (62 + 2 * (x1).toNat)) (ci := 2) (As := [vI x2]) (rest := [vI q25_8]) (W' := fun q30_10 => (Zw (kE K) lt b c ms rd m P)) (rv := fun q30_10 => some (vI q30_10)) X dX2_sameAs_30 rfl (fun a ha => c_X2_headAt N lt b c ms rd m P x1 h9 x2 K.1.2.1 K.2.2.1.1 (kE K) a ha) (fun a => Zw_d _ _ _ _ _ _ _ _) gd_X2_23 rfl (n := 1) (by decide) rfl (by decide) rfl rfl (zg_gobj h9) (by simp [z_cat, z_catR, z_catI, z_catL]) (fun q30_10 eq30_10 => ?_)
      show Rn K _ 0 0 _ 33 [(0, .ref (kB K + 62 + 2 * (h).toNat)), (1, vG (kB K) x1), (2, vI x2)] [vI q30_10, vI q25_8] (Zw (kE K) lt b c ms rd m P)
      refine r_ck1 (fun h11 => ?_)
      refine r_ck1 (fun h12 => ?_)
      refine r_icmp_ne (pc := 33) X h11 h12 dX2_sameAs_33 (tgt := 66) (by decide) (fun h13 => ?_) (fun h13 => ?_)
      · refine r_iconst (pc := 66) X 0 dX2_sameAs_66 (by decide) ?_
        exact r_zret (pc := 67) X (by decide) rfl rfl (by decide) dX2_sameAs_67
      · refine r_aload_n (pc := 36) X 0 dX2_sameAs_36 rfl rfl ?_
        refine r_iload_n (pc := 37) X 2 dX2_sameAs_37 rfl rfl ?_
        refine r_iconst (pc := 38) X 0 dX2_sameAs_38 (by decide) ?_
        refine r_callV (pc := 39) (q0 := (62 + 2 * (h).toNat)) (ci := 2) (As := [vI x2, vI 0]) (rest := []) (W' := fun q39_14 => (Zw (kE K) lt b c ms rd m P)) (rv := fun q39_14 => some (vI q39_14)) X dX2_sameAs_39 rfl (fun a ha => c_X2_partAt N lt b c ms rd m P h hh x2 0 K.1.2.1 K.2.2.1.1 (kE K) a ha) (fun a => Zw_d _ _ _ _ _ _ _ _) gd_X2_30 rfl (n := 2) (by decide) rfl (by decide) rfl rfl (zg_gobj hh) (Nat.zero_le _) (fun q39_14 eq39_14 => ?_)
        show Rn K _ 0 0 _ 42 [(0, .ref (kB K + 62 + 2 * (h).toNat)), (1, vG (kB K) x1), (2, vI x2)] [vI q39_14] (Zw (kE K) lt b c ms rd m P)
        refine r_gload_n (pc := 42) X 1 dX2_sameAs_42 rfl rfl ?_
        refine r_iload_n (pc := 43) X 2 dX2_sameAs_43 rfl rfl ?_
        refine r_iconst (pc := 44) X 0 dX2_sameAs_44 (by decide) ?_
        refine r_rf2 h9.1 ?_
        refine r_callV (pc := 45) (q0 := (62 + 2 * (x1).toNat)) (ci := 2) (As := [vI x2, vI 0]) (rest := [vI q39_14]) (W' := fun q45_15 => (Zw (kE K) lt b c ms rd m P)) (rv := fun q45_15 => some (vI q45_15)) X dX2_sameAs_45 rfl (fun a ha => c_X2_partAt N lt b c ms rd m P x1 h9 x2 0 K.1.2.1 K.2.2.1.1 (kE K) a ha) (fun a => Zw_d _ _ _ _ _ _ _ _) gd_X2_30 rfl (n := 2) (by decide) rfl (by decide) rfl rfl (zg_gobj h9) (by simp [z_cat, z_catR, z_catI, z_catL]) (fun q45_15 eq45_15 => ?_)
        show Rn K _ 0 0 _ 48 [(0, .ref (kB K + 62 + 2 * (h).toNat)), (1, vG (kB K) x1), (2, vI x2)] [vI q45_15, vI q39_14] (Zw (kE K) lt b c ms rd m P)
        refine r_ck1 (fun h16 => ?_)
        refine r_ck1 (fun h17 => ?_)
        refine r_icmp_ne (pc := 48) X h16 h17 dX2_sameAs_48 (tgt := 66) (by decide) (fun h18 => ?_) (fun h18 => ?_)
        · refine r_iconst (pc := 66) X 0 dX2_sameAs_66 (by decide) ?_
          exact r_zret (pc := 67) X (by decide) rfl rfl (by decide) dX2_sameAs_67
        · refine r_aload_n (pc := 51) X 0 dX2_sameAs_51 rfl rfl ?_
          refine r_iload_n (pc := 52) X 2 dX2_sameAs_52 rfl rfl ?_
          refine r_iconst (pc := 53) X 1 dX2_sameAs_53 (by decide) ?_
          refine r_callV (pc := 54) (q0 := (62 + 2 * (h).toNat)) (ci := 2) (As := [vI x2, vI 1]) (rest := []) (W' := fun q54_19 => (Zw (kE K) lt b c ms rd m P)) (rv := fun q54_19 => some (vI q54_19)) X dX2_sameAs_54 rfl (fun a ha => c_X2_partAt N lt b c ms rd m P h hh x2 1 K.1.2.1 K.2.2.1.1 (kE K) a ha) (fun a => Zw_d _ _ _ _ _ _ _ _) gd_X2_30 rfl (n := 2) (by decide) rfl (by decide) rfl rfl (zg_gobj hh) (Nat.zero_le _) (fun q54_19 eq54_19 => ?_)
          show Rn K _ 0 0 _ 57 [(0, .ref (kB K + 62 + 2 * (h).toNat)), (1, vG (kB K) x1), (2, vI x2)] [vI q54_19] (Zw (kE K) lt b c ms rd m P)
          refine r_gload_n (pc := 57) X 1 dX2_sameAs_57 rfl rfl ?_
          refine r_iload_n (pc := 58) X 2 dX2_sameAs_58 rfl rfl ?_
          refine r_iconst (pc := 59) X 1 dX2_sameAs_59 (by decide) ?_
          refine r_rf2 h9.1 ?_
          refine r_callV (pc := 60) (q0 := (62 + 2 * (x1).toNat)) (ci := 2) (As := [vI x2, vI 1]) (rest := [vI q54_19]) (W' := fun q60_20 => (Zw (kE K) lt b c ms rd m P)) (rv := fun q60_20 => some (vI q60_20)) X dX2_sameAs_60 rfl (fun a ha => c_X2_partAt N lt b c ms rd m P x1 h9 x2 1 K.1.2.1 K.2.2.1.1 (kE K) a ha) (fun a => Zw_d _ _ _ _ _ _ _ _) gd_X2_30 rfl (n := 2) (by decide) rfl (by decide) rfl rfl (zg_gobj h9) (by simp [z_cat, z_catR, z_catI, z_catL]) (fun q60_20 eq60_20 => ?_)
          show Rn K _ 0 0 _ 63 [(0, .ref (kB K + 62 + 2 * (h).toNat)), (1, vG (kB K) x1), (2, vI x2)] [vI q60_20, vI q54_19] (Zw (kE K) lt b c ms rd m P)
          refine r_ck1 (fun h21 => ?_)
          refine r_ck1 (fun h22 => ?_)
          refine r_icmp_eq (pc := 63) X h21 h22 dX2_sameAs_63 (tgt := 68) (by decide) (fun h23 => ?_) (fun h23 => ?_)
          · refine r_iinc (pc := 68) (lv' := [(0, .ref (kB K + 62 + 2 * (h).toNat)), (1, vG (kB K) x1), (2, vI (x2 + 1))]) X 2 [1, 2, 0] dX2_sameAs_68 rfl (by decide) (by simp [lv_pick, z_cat]) ?_
            refine r_goto (pc := 71) X dX2_sameAs_71 (tgt := 15) (by decide) ?_
            exact ih (x2 + 1)
          · refine r_iconst (pc := 66) X 0 dX2_sameAs_66 (by decide) ?_
            exact r_zret (pc := 67) X (by decide) rfl rfl (by decide) dX2_sameAs_67
set_option maxRecDepth 100000 in
set_option maxHeartbeats 4000000 in
theorem t_X2_sameAs (N : Nat) (lt b c ms rd m : Bd) (P : PL) (h : Int) (hh : 0 ≤ h ∧ h < (P.length : Int)) (x1 : Int) (K : KT) (X : Kok K cX2_sameAs yX2_sameAs.cls lw_g ({ frames := 2, cells := 0, slots := 0, locals := 43 } : Room) (some .boolean) 3) : Rn K (Q_X2_sameAs K lt b c ms rd m P) 0 0 (f_X2_sameAs N P h x1) 0 [(0, .ref (kB K + 62 + 2 * (h).toNat)), (1, vG (kB K) x1)] [] (Zw (kE K) lt b c ms rd m P) := by
  unfold f_X2_sameAs
  refine r_aload_n (pc := 0) X 0 dX2_sameAs_0 rfl rfl ?_
  refine r_get (pc := 1) (v := vI ((gP P h).1)) X (62 + 2 * (h).toNat) 0 inX2 (zg_gobj hh) rfl (by decide) tf_X2_15 rfl dX2_sameAs_1 ?_
  refine r_gload_n (pc := 4) X 1 dX2_sameAs_4 rfl rfl ?_
  refine r_ckG (fun h1 => ?_)
  refine r_rf0 h1.1 ?_
  refine r_get (pc := 5) (v := vI ((gP P x1).1)) X (62 + 2 * (x1).toNat) 0 inX2 (zg_gobj h1) rfl (by decide) tf_X2_15 rfl dX2_sameAs_5 ?_
  refine r_ck1 (fun h2 => ?_)
  refine r_ck1 (fun h3 => ?_)
  refine r_icmp_eq (pc := 8) X h2 h3 dX2_sameAs_8 (tgt := 13) (by decide) (fun h4 => ?_) (fun h4 => ?_)
  · refine r_iconst (pc := 13) X 0 dX2_sameAs_13 (by decide) ?_
    refine r_istore_n (pc := 14) (i := 2) (lv' := [(0, .ref (kB K + 62 + 2 * (h).toNat)), (1, vG (kB K) x1), (2, vI 0)]) X [1, 2, 0] dX2_sameAs_14 rfl (by decide) (by simp [lv_pick, z_cat]) ?_
    refine t_X2_sameAs_L15 N lt b c ms rd m P  h hh x1 K X _ ?_ N 0
    refine r_iconst (pc := 74) X 1 dX2_sameAs_74 (by decide) ?_
    exact r_zret (pc := 75) X (by decide) rfl rfl (by decide) dX2_sameAs_75
  · refine r_iconst (pc := 11) X 0 dX2_sameAs_11 (by decide) ?_
    exact r_zret (pc := 12) X (by decide) rfl rfl (by decide) dX2_sameAs_12
theorem c_X2_sameAs (N : Nat) (lt b c ms rd m : Bd) (P : PL) (h : Int) (hh : 0 ≤ h ∧ h < (P.length : Int)) (x1 : Int) (l : Launch) (D : va_G) (E : ET) (a : Int) (ha : f_X2_sameAs N P h x1 = some a) : Ct l yX2_sameAs (Cond.code yX2_sameAs cX2_sameAs 3 (some .boolean) :: lw_g) ({ frames := 2, cells := 0, slots := 0, locals := 43 } : Room) D E [.ref (E.2.2.2 + 62 + 2 * (h).toNat), vG (E.2.2.2) x1] (Zw E lt b c ms rd m P) (Zw E lt b c ms rd m P) (some (vI a)) :=
  ct_of (av := fun E => [.ref (E.2.2.2 + 62 + 2 * (h).toNat), vG (E.2.2.2) x1]) (W0 := fun E => Zw E lt b c ms rd m P) (W1 := fun E (a : Int) => Zw E lt b c ms rd m P) (rw := fun E a => some (vI a)) (by decide) rfl (fun E => Zw_d E lt b c ms rd m P) (fun E => by simp [lg_sl, z_cat, z_catR, z_catI, z_catL]) (fun K X => r_lv (by simp [lv_args, z_cat, z_catR, z_catI, z_catL]) (t_X2_sameAs N lt b c ms rd m P h hh x1 K X)) l D E a ha
abbrev Q_X2_codeOf (K : KT) (lt b c ms rd m : Bd) (P : PL) : (Int) → State → Prop := Qm K ({ frames := 3, cells := 0, slots := 0, locals := 63 } : Room) (fun a : Int => Zw (kE K) lt b c ms rd m P) (fun a => some (vL a))
set_option maxRecDepth 100000 in
set_option maxHeartbeats 4000000 in
theorem t_X2_codeOf_L35 (N : Nat) (lt b c ms rd m : Bd) (P : PL) (h : Int) (hh : 0 ≤ h ∧ h < (P.length : Int)) (x3 x4 : Int) (K : KT) (X : Kok K cX2_codeOf yX2_codeOf.cls lw_g ({ frames := 3, cells := 0, slots := 0, locals := 63 } : Room) (some .long) 6) (k : Int → Option (Int)) (hk : ∀ (x1 : Int), Rn K (Q_X2_codeOf K lt b c ms rd m P) 0 0 (k x1) 63 [(0, .ref (kB K + 62 + 2 * (h).toNat)), (1, vL x1), (3, vI x3)] [] (Zw (kE K) lt b c ms rd m P)) : ∀ (n : Nat) (x1 : Int) (x5 : Int), Rn K (Q_X2_codeOf K lt b c ms rd m P) 0 0 (f_X2_codeOf_L35 P h x3 x4 k n x1 x5) 35 [(0, .ref (kB K + 62 + 2 * (h).toNat)), (1, vL x1), (3, vI x3), (4, vI x4), (5, vI x5)] [] (Zw (kE K) lt b c ms rd m P) := by
  intro n
  induction n with
  | zero =>
    intro x1 x5
    rw [f_X2_codeOf_L35]
    exact r_none
  | succ n ih =>
    intro x1 x5
    rw [f_X2_codeOf_L35]
    refine r_iload (pc := 35) X 4 dX2_codeOf_35 rfl ?_
    refine r_iload (pc := 37) X 3 dX2_codeOf_37 rfl ?_
    refine r_ck1 (fun h7 => ?_)
    refine r_ck1 (fun h8 => ?_)
    refine r_icmp_ge (pc := 39) X h7 h8 dX2_codeOf_39 (tgt := 63) (by decide) (fun h9 => ?_) (fun h9 => ?_)
    · refine r_sub [0, 1, 2] rfl ?_
      exact hk x1
    · refine r_ldc2 (pc := 42) X 31 tk_X2_34 dX2_codeOf_42 ?_
      refine r_lload_n (pc := 45) X 1 dX2_codeOf_45 rfl rfl ?_
      refine r_lmul (pc := 46) X dX2_codeOf_46 ?_
      refine r_aload_n (pc := 47) X 0 dX2_codeOf_47 rfl rfl ?_
      refine r_iload_n (pc := 48) X 2 dX2_codeOf_48 rfl rfl ?_
      refine r_iload (pc := 49) X 4 dX2_codeOf_49 rfl ?_
      refine r_callV (pc := 51) (q0 := (62 + 2 * (h).toNat)) (ci := 2) (As := [vI x3, vI x5]) (rest := [vL (31 * x1)]) (W' := fun q51_10 => (Zw (kE K) lt b c ms rd m P)) (rv := fun q51_10 => some (vI q51_10)) X dX2_codeOf_51 rfl (fun a ha => c_X2_partAt N lt b c ms rd m P h hh x3 x5 K.1.2.1 K.2.2.1.1 (kE K) a ha) (fun a => Zw_d _ _ _ _ _ _ _ _) gd_X2_30 rfl (n := 2) (by decide) rfl (by decide) rfl rfl (zg_gobj hh) (by simp [z_cat, z_catR, z_catI, z_catL]) (fun q51_10 eq51_10 => ?_)
      show Rn K _ 0 0 _ 54 [(0, .ref (kB K + 62 + 2 * (h).toNat)), (1, vL x1), (3, vI x3), (4, vI x4), (5, vI x5)] [vI q51_10, vL (31 * x1)] (Zw (kE K) lt b c ms rd m P)
      refine r_ck1 (fun h11 => ?_)
      refine r_i2l (pc := 54) X h11 dX2_codeOf_54 ?_
      refine r_ladd (pc := 55) X dX2_codeOf_55 ?_
      refine r_lstore_n (pc := 56) (lv' := [(0, .ref (kB K + 62 + 2 * (h).toNat)), (1, vL ((31 * x1) + q51_10)), (3, vI x3), (4, vI x4), (5, vI x5)]) X [1, 0, 2, 3, 4] dX2_codeOf_56 rfl (by decide) rfl ?_
      refine r_iinc (pc := 57) (lv' := [(0, .ref (kB K + 62 + 2 * (h).toNat)), (1, vL ((31 * x1) + q51_10)), (3, vI x3), (4, vI x4), (5, vI (x5 + 1))]) X 4 [1, 2, 3, 4, 0] dX2_codeOf_57 rfl (by decide) rfl ?_
      refine r_goto (pc := 60) X dX2_codeOf_60 (tgt := 35) (by decide) ?_
      exact ih ((31 * x1) + q51_10) (x5 + 1)
set_option maxRecDepth 100000 in
set_option maxHeartbeats 4000000 in
theorem t_X2_codeOf_L4 (N : Nat) (lt b c ms rd m : Bd) (P : PL) (h : Int) (hh : 0 ≤ h ∧ h < (P.length : Int)) (K : KT) (X : Kok K cX2_codeOf yX2_codeOf.cls lw_g ({ frames := 3, cells := 0, slots := 0, locals := 63 } : Room) (some .long) 6) (k : Int → Option (Int)) (hk : ∀ (x1 : Int), Rn K (Q_X2_codeOf K lt b c ms rd m P) 0 0 (k x1) 69 [(1, vL x1)] [] (Zw (kE K) lt b c ms rd m P)) : ∀ (n : Nat) (x1 : Int) (x3 : Int), Rn K (Q_X2_codeOf K lt b c ms rd m P) 0 0 (f_X2_codeOf_L4 N P h k n x1 x3) 4 [(0, .ref (kB K + 62 + 2 * (h).toNat)), (1, vL x1), (3, vI x3)] [] (Zw (kE K) lt b c ms rd m P) := by
  intro n
  induction n with
  | zero =>
    intro x1 x3
    rw [f_X2_codeOf_L4]
    exact r_none
  | succ n ih =>
    intro x1 x3
    rw [f_X2_codeOf_L4]
    refine r_iload_n (pc := 4) X 2 dX2_codeOf_4 rfl rfl ?_
    refine r_aload_n (pc := 5) X 0 dX2_codeOf_5 rfl rfl ?_
    refine r_get (pc := 6) (v := vI ((gP P h).1)) X (62 + 2 * (h).toNat) 0 inX2 (zg_gobj hh) rfl (by decide) tf_X2_15 rfl dX2_codeOf_6 ?_
    refine r_ck1 (fun h1 => ?_)
    refine r_ck1 (fun h2 => ?_)
    refine r_icmp_ge (pc := 9) X h1 h2 dX2_codeOf_9 (tgt := 69) (by decide) (fun h3 => ?_) (fun h3 => ?_)
    · refine r_sub [1] rfl ?_
      exact hk x1
    · refine r_ldc2 (pc := 12) X 31 tk_X2_34 dX2_codeOf_12 ?_
      refine r_lload_n (pc := 15) X 1 dX2_codeOf_15 rfl rfl ?_
      refine r_lmul (pc := 16) X dX2_codeOf_16 ?_
      refine r_aload_n (pc := 17) X 0 dX2_codeOf_17 rfl rfl ?_
      refine r_iload_n (pc := 18) X 2 dX2_codeOf_18 rfl rfl ?_
      refine r_callV (pc := 19) (q0 := (62 + 2 * (h).toNat)) (ci := 2) (As := [vI x3]) (rest := [vL (31 * x1)]) (W' := fun q19_4 => (Zw (kE K) lt b c ms rd m P)) (rv := fun q19_4 => some (vI q19_4)) X dX2_codeOf_19 rfl (fun a ha => c_X2_headAt N lt b c ms rd m P h hh x3 K.1.2.1 K.2.2.1.1 (kE K) a ha) (fun a => Zw_d _ _ _ _ _ _ _ _) gd_X2_23 rfl (n := 1) (by decide) rfl (by decide) rfl rfl (zg_gobj hh) (by simp [z_cat, z_catR, z_catI, z_catL]) (fun q19_4 eq19_4 => ?_)
      show Rn K _ 0 0 _ 22 [(0, .ref (kB K + 62 + 2 * (h).toNat)), (1, vL x1), (3, vI x3)] [vI q19_4, vL (31 * x1)] (Zw (kE K) lt b c ms rd m P)
      refine r_ck1 (fun h5 => ?_)
      refine r_i2l (pc := 22) X h5 dX2_codeOf_22 ?_
      refine r_ladd (pc := 23) X dX2_codeOf_23 ?_
      refine r_lstore_n (pc := 24) (lv' := [(0, .ref (kB K + 62 + 2 * (h).toNat)), (1, vL ((31 * x1) + q19_4)), (3, vI x3)]) X [1, 0, 2] dX2_codeOf_24 rfl (by decide) rfl ?_
      refine r_aload_n (pc := 25) X 0 dX2_codeOf_25 rfl rfl ?_
      refine r_iload_n (pc := 26) X 2 dX2_codeOf_26 rfl rfl ?_
      refine r_callV (pc := 27) (q0 := (62 + 2 * (h).toNat)) (ci := 2) (As := [vI x3]) (rest := []) (W' := fun q27_6 => (Zw (kE K) lt b c ms rd m P)) (rv := fun q27_6 => some (vI q27_6)) X dX2_codeOf_27 rfl (fun a ha => c_X2_partCount N lt b c ms rd m P h hh x3 K.1.2.1 K.2.2.1.1 (kE K) a ha) (fun a => Zw_d _ _ _ _ _ _ _ _) gd_X2_36 rfl (n := 1) (by decide) rfl (by decide) rfl rfl (zg_gobj hh) (Nat.zero_le _) (fun q27_6 eq27_6 => ?_)
      show Rn K _ 0 0 _ 30 [(0, .ref (kB K + 62 + 2 * (h).toNat)), (1, vL ((31 * x1) + q19_4)), (3, vI x3)] [vI q27_6] (Zw (kE K) lt b c ms rd m P)
      refine r_istore (pc := 30) (lv' := [(0, .ref (kB K + 62 + 2 * (h).toNat)), (1, vL ((31 * x1) + q19_4)), (3, vI x3), (4, vI q27_6)]) X [1, 2, 3, 0] dX2_codeOf_30 (by decide) rfl ?_
      refine r_iconst (pc := 32) X 0 dX2_codeOf_32 (by decide) ?_
      refine r_istore (pc := 33) (lv' := [(0, .ref (kB K + 62 + 2 * (h).toNat)), (1, vL ((31 * x1) + q19_4)), (3, vI x3), (4, vI q27_6), (5, vI 0)]) X [1, 2, 3, 4, 0] dX2_codeOf_33 (by decide) rfl ?_
      refine t_X2_codeOf_L35 N lt b c ms rd m P  h hh x3 q27_6 K X _ ?_ N ((31 * x1) + q19_4) 0
      intro x1_35
      refine r_iinc (pc := 63) (lv' := [(0, .ref (kB K + 62 + 2 * (h).toNat)), (1, vL x1_35), (3, vI (x3 + 1))]) X 2 [1, 2, 0] dX2_codeOf_63 rfl (by decide) rfl ?_
      refine r_goto (pc := 66) X dX2_codeOf_66 (tgt := 4) (by decide) ?_
      exact ih x1_35 (x3 + 1)
set_option maxRecDepth 100000 in
set_option maxHeartbeats 4000000 in
theorem t_X2_codeOf (N : Nat) (lt b c ms rd m : Bd) (P : PL) (h : Int) (hh : 0 ≤ h ∧ h < (P.length : Int)) (K : KT) (X : Kok K cX2_codeOf yX2_codeOf.cls lw_g ({ frames := 3, cells := 0, slots := 0, locals := 63 } : Room) (some .long) 6) : Rn K (Q_X2_codeOf K lt b c ms rd m P) 0 0 (f_X2_codeOf N P h) 0 [(0, .ref (kB K + 62 + 2 * (h).toNat))] [] (Zw (kE K) lt b c ms rd m P) := by
  unfold f_X2_codeOf
  refine r_lconst (pc := 0) X 1 dX2_codeOf_0 (by decide) ?_
  refine r_lstore_n (pc := 1) (lv' := [(0, .ref (kB K + 62 + 2 * (h).toNat)), (1, vL 1)]) X [1, 0] dX2_codeOf_1 rfl (by decide) rfl ?_
  refine r_iconst (pc := 2) X 0 dX2_codeOf_2 (by decide) ?_
  refine r_istore_n (pc := 3) (lv' := [(0, .ref (kB K + 62 + 2 * (h).toNat)), (1, vL 1), (3, vI 0)]) X [1, 2, 0] dX2_codeOf_3 rfl (by decide) rfl ?_
  refine t_X2_codeOf_L4 N lt b c ms rd m P  h hh  K X _ ?_ N 1 0
  intro x1_4
  refine r_lload_n (pc := 69) X 0 dX2_codeOf_69 rfl rfl ?_
  exact r_lret (pc := 70) X rfl rfl (by decide) dX2_codeOf_70
theorem c_X2_codeOf (N : Nat) (lt b c ms rd m : Bd) (P : PL) (h : Int) (hh : 0 ≤ h ∧ h < (P.length : Int)) (l : Launch) (D : va_G) (E : ET) (a : Int) (ha : f_X2_codeOf N P h = some a) : Ct l yX2_codeOf (Cond.code yX2_codeOf cX2_codeOf 6 (some .long) :: lw_g) ({ frames := 3, cells := 0, slots := 0, locals := 63 } : Room) D E [.ref (E.2.2.2 + 62 + 2 * (h).toNat)] (Zw E lt b c ms rd m P) (Zw E lt b c ms rd m P) (some (vL a)) :=
  ct_of (av := fun E => [.ref (E.2.2.2 + 62 + 2 * (h).toNat)]) (W0 := fun E => Zw E lt b c ms rd m P) (W1 := fun E (a : Int) => Zw E lt b c ms rd m P) (rw := fun E a => some (vL a)) (by decide) rfl (fun E => Zw_d E lt b c ms rd m P) (fun E => by simp [lg_sl, z_cat, z_catR, z_catI, z_catL]) (fun K X => r_lv (by simp [lv_args, z_cat, z_catR, z_catI, z_catL]) (t_X2_codeOf N lt b c ms rd m P h hh  K X)) l D E a ha
abbrev Q_X2_countOf (K : KT) (lt b c ms rd m : Bd) (P : PL) : (Int) → State → Prop := Qm K ({ frames := 2, cells := 0, slots := 0, locals := 42 } : Room) (fun a : Int => Zw (kE K) lt b c ms rd m P) (fun a => some (vI a))
set_option maxRecDepth 100000 in
set_option maxHeartbeats 4000000 in
theorem t_X2_countOf_L4 (N : Nat) (lt b c ms rd m : Bd) (P : PL) (h : Int) (hh : 0 ≤ h ∧ h < (P.length : Int)) (x1 : Int) (K : KT) (X : Kok K cX2_countOf yX2_countOf.cls lw_g ({ frames := 2, cells := 0, slots := 0, locals := 42 } : Room) (some .int) 4) (k : Int → Option (Int)) (hk : ∀ (x2 : Int), Rn K (Q_X2_countOf K lt b c ms rd m P) 0 0 (k x2) 30 [(2, vI x2)] [] (Zw (kE K) lt b c ms rd m P)) : ∀ (n : Nat) (x2 : Int) (x3 : Int), Rn K (Q_X2_countOf K lt b c ms rd m P) 0 0 (f_X2_countOf_L4 P h x1 k n x2 x3) 4 [(0, .ref (kB K + 62 + 2 * (h).toNat)), (1, vI x1), (2, vI x2), (3, vI x3)] [] (Zw (kE K) lt b c ms rd m P) := by
  intro n
  induction n with
  | zero =>
    intro x2 x3
    rw [f_X2_countOf_L4]
    exact r_none
  | succ n ih =>
    intro x2 x3
    rw [f_X2_countOf_L4]
    refine r_iload_n (pc := 4) X 3 dX2_countOf_4 rfl rfl ?_
    refine r_aload_n (pc := 5) X 0 dX2_countOf_5 rfl rfl ?_
    refine r_get (pc := 6) (v := vI ((gP P h).1)) X (62 + 2 * (h).toNat) 0 inX2 (zg_gobj hh) rfl (by decide) tf_X2_15 rfl dX2_countOf_6 ?_
    refine r_ck1 (fun h1 => ?_)
    refine r_ck1 (fun h2 => ?_)
    refine r_icmp_ge (pc := 9) X h1 h2 dX2_countOf_9 (tgt := 30) (by decide) (fun h3 => ?_) (fun h3 => ?_)
    · refine r_sub [2] rfl ?_
      exact hk x2
    · refine r_aload_n (pc := 12) X 0 dX2_countOf_12 rfl rfl ?_
      refine r_iload_n (pc := 13) X 3 dX2_countOf_13 rfl rfl ?_
      refine r_callV (pc := 14) (q0 := (62 + 2 * (h).toNat)) (ci := 2) (As := [vI x3]) (rest := []) (W' := fun q14_4 => (Zw (kE K) lt b c ms rd m P)) (rv := fun q14_4 => some (vI q14_4)) X dX2_countOf_14 rfl (fun a ha => c_X2_headAt N lt b c ms rd m P h hh x3 K.1.2.1 K.2.2.1.1 (kE K) a ha) (fun a => Zw_d _ _ _ _ _ _ _ _) gd_X2_23 rfl (n := 1) (by decide) rfl (by decide) rfl rfl (zg_gobj hh) (Nat.zero_le _) (fun q14_4 eq14_4 => ?_)
      show Rn K _ 0 0 _ 17 [(0, .ref (kB K + 62 + 2 * (h).toNat)), (1, vI x1), (2, vI x2), (3, vI x3)] [vI q14_4] (Zw (kE K) lt b c ms rd m P)
      refine r_iload_n (pc := 17) X 1 dX2_countOf_17 rfl rfl ?_
      refine r_ck1 (fun h5 => ?_)
      refine r_ck1 (fun h6 => ?_)
      refine r_icmp_ne (pc := 18) X h5 h6 dX2_countOf_18 (tgt := 24) (by decide) (fun h7 => ?_) (fun h7 => ?_)
      · refine r_iinc (pc := 24) (lv' := [(0, .ref (kB K + 62 + 2 * (h).toNat)), (1, vI x1), (2, vI x2), (3, vI (x3 + 1))]) X 3 [1, 2, 3, 0] dX2_countOf_24 rfl (by decide) rfl ?_
        refine r_goto (pc := 27) X dX2_countOf_27 (tgt := 4) (by decide) ?_
        exact ih x2 (x3 + 1)
      · refine r_iinc (pc := 21) (lv' := [(0, .ref (kB K + 62 + 2 * (h).toNat)), (1, vI x1), (2, vI (x2 + 1)), (3, vI x3)]) X 2 [1, 2, 0, 3] dX2_countOf_21 rfl (by decide) rfl ?_
        refine r_iinc (pc := 24) (lv' := [(0, .ref (kB K + 62 + 2 * (h).toNat)), (1, vI x1), (2, vI (x2 + 1)), (3, vI (x3 + 1))]) X 3 [1, 2, 3, 0] dX2_countOf_24 rfl (by decide) rfl ?_
        refine r_goto (pc := 27) X dX2_countOf_27 (tgt := 4) (by decide) ?_
        exact ih (x2 + 1) (x3 + 1)
set_option maxRecDepth 100000 in
set_option maxHeartbeats 4000000 in
theorem t_X2_countOf (N : Nat) (lt b c ms rd m : Bd) (P : PL) (h : Int) (hh : 0 ≤ h ∧ h < (P.length : Int)) (x1 : Int) (K : KT) (X : Kok K cX2_countOf yX2_countOf.cls lw_g ({ frames := 2, cells := 0, slots := 0, locals := 42 } : Room) (some .int) 4) : Rn K (Q_X2_countOf K lt b c ms rd m P) 0 0 (f_X2_countOf N P h x1) 0 [(0, .ref (kB K + 62 + 2 * (h).toNat)), (1, vI x1)] [] (Zw (kE K) lt b c ms rd m P) := by
  unfold f_X2_countOf
  refine r_iconst (pc := 0) X 0 dX2_countOf_0 (by decide) ?_
  refine r_istore_n (pc := 1) (lv' := [(0, .ref (kB K + 62 + 2 * (h).toNat)), (1, vI x1), (2, vI 0)]) X [1, 2, 0] dX2_countOf_1 rfl (by decide) rfl ?_
  refine r_iconst (pc := 2) X 0 dX2_countOf_2 (by decide) ?_
  refine r_istore_n (pc := 3) (lv' := [(0, .ref (kB K + 62 + 2 * (h).toNat)), (1, vI x1), (2, vI 0), (3, vI 0)]) X [1, 2, 3, 0] dX2_countOf_3 rfl (by decide) rfl ?_
  refine t_X2_countOf_L4 N lt b c ms rd m P  h hh x1 K X _ ?_ N 0 0
  intro x2_4
  refine r_iload_n (pc := 30) X 0 dX2_countOf_30 rfl rfl ?_
  exact r_iret (pc := 31) X rfl rfl (by decide) dX2_countOf_31
theorem c_X2_countOf (N : Nat) (lt b c ms rd m : Bd) (P : PL) (h : Int) (hh : 0 ≤ h ∧ h < (P.length : Int)) (x1 : Int) (l : Launch) (D : va_G) (E : ET) (a : Int) (ha : f_X2_countOf N P h x1 = some a) : Ct l yX2_countOf (Cond.code yX2_countOf cX2_countOf 4 (some .int) :: lw_g) ({ frames := 2, cells := 0, slots := 0, locals := 42 } : Room) D E [.ref (E.2.2.2 + 62 + 2 * (h).toNat), vI x1] (Zw E lt b c ms rd m P) (Zw E lt b c ms rd m P) (some (vI a)) :=
  ct_of (av := fun E => [.ref (E.2.2.2 + 62 + 2 * (h).toNat), vI x1]) (W0 := fun E => Zw E lt b c ms rd m P) (W1 := fun E (a : Int) => Zw E lt b c ms rd m P) (rw := fun E a => some (vI a)) (by decide) rfl (fun E => Zw_d E lt b c ms rd m P) (fun E => by simp [lg_sl, z_cat, z_catR, z_catI, z_catL]) (fun K X => r_lv (by simp [lv_args, z_cat, z_catR, z_catI, z_catL]) (t_X2_countOf N lt b c ms rd m P h hh x1 K X)) l D E a ha
