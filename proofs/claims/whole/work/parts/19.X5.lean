abbrev Q_X5_refuseBad (K : KT) (lt b c ms rd m : Bd) (P : PL) : (Int × Bd) → State → Prop := Qm K ({ frames := 0, cells := 0, slots := 0, locals := 0 } : Room) (fun a : Int × Bd => Zw (kE K) a.2 b c ms rd m P) (fun a => some (vI a.1))
set_option maxRecDepth 100000 in
set_option maxHeartbeats 4000000 in
theorem t_X5_refuseBad (N : Nat) (lt b c ms rd m : Bd) (P : PL) (K : KT) (X : Kok K cX5_refuseBad yX5_refuseBad.cls lw_g ({ frames := 0, cells := 0, slots := 0, locals := 0 } : Room) (some .int) 1) : Rn K (Q_X5_refuseBad K lt b c ms rd m P) 0 0 (f_X5_refuseBad lt) 0 [(0, .ref (kB K + 0))] [] (Zw (kE K) lt b c ms rd m P) := by
  unfold f_X5_refuseBad
  refine r_aload_n (pc := 0) X 0 dX5_refuseBad_0 rfl rfl ?_
  refine r_dup (pc := 1) X dX5_refuseBad_1 rfl ?_
  refine r_get (pc := 2) (v := vI (lt 8 0)) X 0 8 inX5 rfl rfl (by decide) tf_X5_214 rfl dX5_refuseBad_2 ?_
  refine r_iconst (pc := 5) X 1 dX5_refuseBad_5 (by decide) ?_
  refine r_iadd (pc := 6) X dX5_refuseBad_6 ?_
  refine r_put (pc := 7) (ws' := (Zw (kE K) (bs0 lt 8 ((lt 8 0) + 1)) b c ms rd m P)) X 0 8 inX5 tyX5 tyX5_ok nmX5 rfl rfl (by decide) tf_X5_214 rfl (tyX5_ok 8 (by decide)) rfl rfl (Nat.le_of_ble_eq_true rfl) rfl dX5_refuseBad_7 ?_
  refine r_bipush (pc := 10) X (-2) dX5_refuseBad_10 (by decide) ?_
  exact r_iret (pc := 12) X rfl rfl (by decide) dX5_refuseBad_12
theorem c_X5_refuseBad (N : Nat) (lt b c ms rd m : Bd) (P : PL) (l : Launch) (D : va_G) (E : ET) (a : Int × Bd) (ha : f_X5_refuseBad lt = some a) : Ct l yX5_refuseBad (Cond.code yX5_refuseBad cX5_refuseBad 1 (some .int) :: lw_g) ({ frames := 0, cells := 0, slots := 0, locals := 0 } : Room) D E [.ref (E.2.2.2 + 0)] (Zw E lt b c ms rd m P) (Zw E a.2 b c ms rd m P) (some (vI a.1)) :=
  ct_of (av := fun E => [.ref (E.2.2.2 + 0)]) (W0 := fun E => Zw E lt b c ms rd m P) (W1 := fun E (a : Int × Bd) => Zw E a.2 b c ms rd m P) (rw := fun E a => some (vI a.1)) (by decide) rfl (fun E => Zw_d E lt b c ms rd m P) (fun E => by simp [lg_sl, z_cat, z_catR, z_catI, z_catL]) (fun K X => r_lv (by simp [lv_args, z_cat, z_catR, z_catI, z_catL]) (t_X5_refuseBad N lt b c ms rd m P  K X)) l D E a ha
abbrev Q_X5_refuseFull (K : KT) (lt b c ms rd m : Bd) (P : PL) : (Int × Bd) → State → Prop := Qm K ({ frames := 0, cells := 0, slots := 0, locals := 0 } : Room) (fun a : Int × Bd => Zw (kE K) a.2 b c ms rd m P) (fun a => some (vI a.1))
set_option maxRecDepth 100000 in
set_option maxHeartbeats 4000000 in
theorem t_X5_refuseFull (N : Nat) (lt b c ms rd m : Bd) (P : PL) (K : KT) (X : Kok K cX5_refuseFull yX5_refuseFull.cls lw_g ({ frames := 0, cells := 0, slots := 0, locals := 0 } : Room) (some .int) 1) : Rn K (Q_X5_refuseFull K lt b c ms rd m P) 0 0 (f_X5_refuseFull lt) 0 [(0, .ref (kB K + 0))] [] (Zw (kE K) lt b c ms rd m P) := by
  unfold f_X5_refuseFull
  refine r_aload_n (pc := 0) X 0 dX5_refuseFull_0 rfl rfl ?_
  refine r_dup (pc := 1) X dX5_refuseFull_1 rfl ?_
  refine r_get (pc := 2) (v := vI (lt 10 0)) X 0 10 inX5 rfl rfl (by decide) tf_X5_220 rfl dX5_refuseFull_2 ?_
  refine r_iconst (pc := 5) X 1 dX5_refuseFull_5 (by decide) ?_
  refine r_iadd (pc := 6) X dX5_refuseFull_6 ?_
  refine r_put (pc := 7) (ws' := (Zw (kE K) (bs0 lt 10 ((lt 10 0) + 1)) b c ms rd m P)) X 0 10 inX5 tyX5 tyX5_ok nmX5 rfl rfl (by decide) tf_X5_220 rfl (tyX5_ok 10 (by decide)) rfl rfl (Nat.le_of_ble_eq_true rfl) rfl dX5_refuseFull_7 ?_
  refine r_bipush (pc := 10) X (-4) dX5_refuseFull_10 (by decide) ?_
  exact r_iret (pc := 12) X rfl rfl (by decide) dX5_refuseFull_12
theorem c_X5_refuseFull (N : Nat) (lt b c ms rd m : Bd) (P : PL) (l : Launch) (D : va_G) (E : ET) (a : Int × Bd) (ha : f_X5_refuseFull lt = some a) : Ct l yX5_refuseFull (Cond.code yX5_refuseFull cX5_refuseFull 1 (some .int) :: lw_g) ({ frames := 0, cells := 0, slots := 0, locals := 0 } : Room) D E [.ref (E.2.2.2 + 0)] (Zw E lt b c ms rd m P) (Zw E a.2 b c ms rd m P) (some (vI a.1)) :=
  ct_of (av := fun E => [.ref (E.2.2.2 + 0)]) (W0 := fun E => Zw E lt b c ms rd m P) (W1 := fun E (a : Int × Bd) => Zw E a.2 b c ms rd m P) (rw := fun E a => some (vI a.1)) (by decide) rfl (fun E => Zw_d E lt b c ms rd m P) (fun E => by simp [lg_sl, z_cat, z_catR, z_catI, z_catL]) (fun K X => r_lv (by simp [lv_args, z_cat, z_catR, z_catI, z_catL]) (t_X5_refuseFull N lt b c ms rd m P  K X)) l D E a ha
abbrev Q_X5_type (K : KT) (lt b c ms rd m : Bd) (P : PL) : (Int × Bd) → State → Prop := Qm K ({ frames := 1, cells := 0, slots := 0, locals := 20 } : Room) (fun a : Int × Bd => Zw (kE K) a.2 b c ms rd m P) (fun a => some (vI a.1))
set_option maxRecDepth 100000 in
set_option maxHeartbeats 4000000 in
theorem t_X5_type (N : Nat) (lt b c ms rd m : Bd) (P : PL) (x1 : Int) (K : KT) (X : Kok K cX5_type yX5_type.cls lw_g ({ frames := 1, cells := 0, slots := 0, locals := 20 } : Room) (some .int) 2) : Rn K (Q_X5_type K lt b c ms rd m P) 0 0 (f_X5_type lt x1) 0 [(0, .ref (kB K + 0)), (1, vI x1)] [] (Zw (kE K) lt b c ms rd m P) := by
  unfold f_X5_type
  refine r_iload_n (pc := 0) X 1 dX5_type_0 rfl rfl ?_
  refine r_jn (J := fun j10 => Rn K (Q_X5_type K lt b c ms rd m P) 0 0 j10 10 [(0, .ref (kB K + 0))] [] (Zw (kE K) lt b c ms rd m P)) ?_ (fun j10 hj10 => ?_)
  · skip
    refine r_aload_n (pc := 10) X 0 dX5_type_10 rfl rfl ?_
    refine r_callV (pc := 11) (q0 := 0) (ci := 5) (As := []) (rest := []) (W' := fun q11_1 => (Zw (kE K) q11_1.2 b c ms rd m P)) (rv := fun q11_1 => some (vI q11_1.1)) X dX5_type_11 rfl (fun a ha => c_X5_refuseBad N lt b c ms rd m P K.1.2.1 K.2.2.1.1 (kE K) a ha) (fun a => Zw_d _ _ _ _ _ _ _ _) gd_X5_53 rfl (n := 0) (by decide) rfl (by decide) rfl rfl rfl (Nat.zero_le _) (fun q11_1 eq11_1 => ?_)
    show Rn K _ 0 0 _ 14 [(0, .ref (kB K + 0))] [vI q11_1.1] (Zw (kE K) q11_1.2 b c ms rd m P)
    exact r_iret (pc := 14) X rfl rfl (by decide) dX5_type_14
  refine r_ck1 (fun h2 => ?_)
  refine r_iflt (pc := 1) X h2 dX5_type_1 (tgt := 10) (by decide) (fun h3 => ?_) (fun h3 => ?_)
  · refine r_sub [0] rfl ?_
    exact hj10
  · refine r_iload_n (pc := 4) X 1 dX5_type_4 rfl rfl ?_
    refine r_bipush (pc := 5) X 127 dX5_type_5 (by decide) ?_
    refine r_icmp_le (pc := 7) X h2 (by decide) dX5_type_7 (tgt := 15) (by decide) (fun h4 => ?_) (fun h4 => ?_)
    · refine r_aload_n (pc := 15) X 0 dX5_type_15 rfl rfl ?_
      refine r_get (pc := 16) (v := vI (lt 1 0)) X 0 1 inX5 rfl rfl (by decide) tf_X5_57 rfl dX5_type_16 ?_
      refine r_bipush (pc := 19) X 120 dX5_type_19 (by decide) ?_
      refine r_ck1 (fun h5 => ?_)
      refine r_icmp_lt (pc := 21) X h5 (by decide) dX5_type_21 (tgt := 29) (by decide) (fun h6 => ?_) (fun h6 => ?_)
      · refine r_aload_n (pc := 29) X 0 dX5_type_29 rfl rfl ?_
        refine r_get (pc := 30) (v := .ref (kB K + 1)) X 0 0 inX5 rfl rfl (by decide) tf_X5_9 rfl dX5_type_30 ?_
        refine r_aload_n (pc := 33) X 0 dX5_type_33 rfl rfl ?_
        refine r_get (pc := 34) (v := vI (lt 1 0)) X 0 1 inX5 rfl rfl (by decide) tf_X5_57 rfl dX5_type_34 ?_
        refine r_iload_n (pc := 37) X 1 dX5_type_37 rfl rfl ?_
        refine r_ckA (fun h7 => ?_)
        refine r_iast (pc := 38) (f := lt 0) (ws' := (Zw (kE K) (bS lt 0 (aS (lt 0) (lt 1 0) x1)) b c ms rd m P)) X 1 h7 zl_120 rfl rfl dX5_type_38 ?_
        refine r_aload_n (pc := 39) X 0 dX5_type_39 rfl rfl ?_
        refine r_dup (pc := 40) X dX5_type_40 rfl ?_
        refine r_get (pc := 41) (v := vI (lt 1 0)) X 0 1 inX5 rfl rfl (by decide) tf_X5_57 rfl dX5_type_41 ?_
        refine r_iconst (pc := 44) X 1 dX5_type_44 (by decide) ?_
        refine r_iadd (pc := 45) X dX5_type_45 ?_
        refine r_put (pc := 46) (ws' := (Zw (kE K) (bs0 (bS lt 0 (aS (lt 0) (lt 1 0) x1)) 1 ((lt 1 0) + 1)) b c ms rd m P)) X 0 1 inX5 tyX5 tyX5_ok nmX5 rfl rfl (by decide) tf_X5_57 rfl (tyX5_ok 1 (by decide)) rfl rfl (Nat.le_of_ble_eq_true rfl) rfl dX5_type_46 ?_
        refine r_aload_n (pc := 49) X 0 dX5_type_49 rfl rfl ?_
        refine r_get (pc := 50) (v := vI ((lt 1 0) + 1)) X 0 1 inX5 rfl rfl (by decide) tf_X5_57 rfl dX5_type_50 ?_
        exact r_iret (pc := 53) X rfl rfl (by decide) dX5_type_53
      · refine r_aload_n (pc := 24) X 0 dX5_type_24 rfl rfl ?_
        refine r_callV (pc := 25) (q0 := 0) (ci := 5) (As := []) (rest := []) (W' := fun q25_8 => (Zw (kE K) q25_8.2 b c ms rd m P)) (rv := fun q25_8 => some (vI q25_8.1)) X dX5_type_25 rfl (fun a ha => c_X5_refuseFull N lt b c ms rd m P K.1.2.1 K.2.2.1.1 (kE K) a ha) (fun a => Zw_d _ _ _ _ _ _ _ _) gd_X5_61 rfl (n := 0) (by decide) rfl (by decide) rfl rfl rfl (Nat.zero_le _) (fun q25_8 eq25_8 => ?_)
        show Rn K _ 0 0 _ 28 [(0, .ref (kB K + 0)), (1, vI x1)] [vI q25_8.1] (Zw (kE K) q25_8.2 b c ms rd m P)
        exact r_iret (pc := 28) X rfl rfl (by decide) dX5_type_28
    · refine r_sub [0] rfl ?_
      exact hj10
theorem c_X5_type (N : Nat) (lt b c ms rd m : Bd) (P : PL) (x1 : Int) (l : Launch) (D : va_G) (E : ET) (a : Int × Bd) (ha : f_X5_type lt x1 = some a) : Ct l yX5_type (Cond.code yX5_type cX5_type 2 (some .int) :: lw_g) ({ frames := 1, cells := 0, slots := 0, locals := 20 } : Room) D E [.ref (E.2.2.2 + 0), vI x1] (Zw E lt b c ms rd m P) (Zw E a.2 b c ms rd m P) (some (vI a.1)) :=
  ct_of (av := fun E => [.ref (E.2.2.2 + 0), vI x1]) (W0 := fun E => Zw E lt b c ms rd m P) (W1 := fun E (a : Int × Bd) => Zw E a.2 b c ms rd m P) (rw := fun E a => some (vI a.1)) (by decide) rfl (fun E => Zw_d E lt b c ms rd m P) (fun E => by simp [lg_sl, z_cat, z_catR, z_catI, z_catL]) (fun K X => r_lv (by simp [lv_args, z_cat, z_catR, z_catI, z_catL]) (t_X5_type N lt b c ms rd m P x1 K X)) l D E a ha
abbrev Q_X5_clear (K : KT) (lt b c ms rd m : Bd) (P : PL) : (Int × Bd) → State → Prop := Qm K ({ frames := 0, cells := 0, slots := 0, locals := 0 } : Room) (fun a : Int × Bd => Zw (kE K) a.2 b c ms rd m P) (fun a => some (vI a.1))
set_option maxRecDepth 100000 in
set_option maxHeartbeats 4000000 in
theorem t_X5_clear (N : Nat) (lt b c ms rd m : Bd) (P : PL) (K : KT) (X : Kok K cX5_clear yX5_clear.cls lw_g ({ frames := 0, cells := 0, slots := 0, locals := 0 } : Room) (some .int) 2) : Rn K (Q_X5_clear K lt b c ms rd m P) 0 0 (f_X5_clear lt) 0 [(0, .ref (kB K + 0))] [] (Zw (kE K) lt b c ms rd m P) := by
  unfold f_X5_clear
  refine r_aload_n (pc := 0) X 0 dX5_clear_0 rfl rfl ?_
  refine r_get (pc := 1) (v := vI (lt 1 0)) X 0 1 inX5 rfl rfl (by decide) tf_X5_57 rfl dX5_clear_1 ?_
  refine r_istore_n (pc := 4) (lv' := [(0, .ref (kB K + 0)), (1, vI (lt 1 0))]) X [1, 0] dX5_clear_4 rfl (by decide) rfl ?_
  refine r_aload_n (pc := 5) X 0 dX5_clear_5 rfl rfl ?_
  refine r_iconst (pc := 6) X 0 dX5_clear_6 (by decide) ?_
  refine r_put (pc := 7) (ws' := (Zw (kE K) (bs0 lt 1 0) b c ms rd m P)) X 0 1 inX5 tyX5 tyX5_ok nmX5 rfl rfl (by decide) tf_X5_57 rfl (tyX5_ok 1 (by decide)) rfl rfl (Nat.le_of_ble_eq_true rfl) rfl dX5_clear_7 ?_
  refine r_iload_n (pc := 10) X 1 dX5_clear_10 rfl rfl ?_
  exact r_iret (pc := 11) X rfl rfl (by decide) dX5_clear_11
theorem c_X5_clear (N : Nat) (lt b c ms rd m : Bd) (P : PL) (l : Launch) (D : va_G) (E : ET) (a : Int × Bd) (ha : f_X5_clear lt = some a) : Ct l yX5_clear (Cond.code yX5_clear cX5_clear 2 (some .int) :: lw_g) ({ frames := 0, cells := 0, slots := 0, locals := 0 } : Room) D E [.ref (E.2.2.2 + 0)] (Zw E lt b c ms rd m P) (Zw E a.2 b c ms rd m P) (some (vI a.1)) :=
  ct_of (av := fun E => [.ref (E.2.2.2 + 0)]) (W0 := fun E => Zw E lt b c ms rd m P) (W1 := fun E (a : Int × Bd) => Zw E a.2 b c ms rd m P) (rw := fun E a => some (vI a.1)) (by decide) rfl (fun E => Zw_d E lt b c ms rd m P) (fun E => by simp [lg_sl, z_cat, z_catR, z_catI, z_catL]) (fun K X => r_lv (by simp [lv_args, z_cat, z_catR, z_catI, z_catL]) (t_X5_clear N lt b c ms rd m P  K X)) l D E a ha
abbrev Q_X5_keepVersion (K : KT) (lt b c ms rd m : Bd) (P : PL) : (Bd) → State → Prop := Qm K ({ frames := 1, cells := 0, slots := 0, locals := 21 } : Room) (fun a : Bd => Zw (kE K) a b c ms rd m P) (fun a => none)
set_option maxRecDepth 100000 in
set_option maxHeartbeats 4000000 in
theorem t_X5_keepVersion_L2 (N : Nat) (lt b c ms rd m : Bd) (P : PL) (K : KT) (X : Kok K cX5_keepVersion yX5_keepVersion.cls lw_g ({ frames := 1, cells := 0, slots := 0, locals := 21 } : Room) none 2) (k : Bd → Option (Bd)) (hk : ∀ (lt1 : Bd), Rn K (Q_X5_keepVersion K lt b c ms rd m P) 0 0 (k lt1) 34 [(0, .ref (kB K + 0))] [] (Zw (kE K) lt1 b c ms rd m P)) : ∀ (n : Nat) (x1 : Int) (lt1 : Bd), Rn K (Q_X5_keepVersion K lt b c ms rd m P) 0 0 (f_X5_keepVersion_L2 P k n x1 lt1) 2 [(0, .ref (kB K + 0)), (1, vI x1)] [] (Zw (kE K) lt1 b c ms rd m P) := by
  intro n
  induction n with
  | zero =>
    intro x1 lt1
    rw [f_X5_keepVersion_L2]
    exact r_none
  | succ n ih =>
    intro x1 lt1
    rw [f_X5_keepVersion_L2]
    refine r_iload_n (pc := 2) X 1 dX5_keepVersion_2 rfl rfl ?_
    refine r_bipush (pc := 3) X 8 dX5_keepVersion_3 (by decide) ?_
    refine r_ck1 (fun h1 => ?_)
    refine r_icmp_ge (pc := 5) X h1 (by decide) dX5_keepVersion_5 (tgt := 34) (by decide) (fun h2 => ?_) (fun h2 => ?_)
    · refine r_sub [0] rfl ?_
      exact hk lt1
    · refine r_aload_n (pc := 8) X 0 dX5_keepVersion_8 rfl rfl ?_
      refine r_get (pc := 9) (v := .ref (kB K + 4)) X 0 5 inX5 rfl rfl (by decide) tf_X5_22 rfl dX5_keepVersion_9 ?_
      refine r_aload_n (pc := 12) X 0 dX5_keepVersion_12 rfl rfl ?_
      refine r_get (pc := 13) (v := vI (lt1 6 0)) X 0 6 inX5 rfl rfl (by decide) tf_X5_204 rfl dX5_keepVersion_13 ?_
      refine r_bipush (pc := 16) X 8 dX5_keepVersion_16 (by decide) ?_
      refine r_imul (pc := 18) X dX5_keepVersion_18 ?_
      refine r_iload_n (pc := 19) X 1 dX5_keepVersion_19 rfl rfl ?_
      refine r_iadd (pc := 20) X dX5_keepVersion_20 ?_
      refine r_aload_n (pc := 21) X 0 dX5_keepVersion_21 rfl rfl ?_
      refine r_get (pc := 22) (v := .ref (kB K + 2)) X 0 3 inX5 rfl rfl (by decide) tf_X5_15 rfl dX5_keepVersion_22 ?_
      refine r_iload_n (pc := 25) X 1 dX5_keepVersion_25 rfl rfl ?_
      refine r_ckA (fun h3 => ?_)
      refine r_aald (pc := 26) (f := lt1 3) X 2 h3 zl_8 rfl dX5_keepVersion_26 ?_
      refine r_ckA (fun h4 => ?_)
      refine r_ckN (fun h5 => ?_)
      refine r_aastG (pc := 27) (f := lt1 5) (ws' := (Zw (kE K) (bS lt1 5 (aS (lt1 5) (((lt1 6 0) * 8) + x1) (lt1 3 x1))) b c ms rd m P)) X 4 h4 zl_64 h5 rfl rfl dX5_keepVersion_27 ?_
      refine r_iinc (pc := 28) (lv' := [(0, .ref (kB K + 0)), (1, vI (x1 + 1))]) X 1 [1, 0] dX5_keepVersion_28 rfl (by decide) rfl ?_
      refine r_goto (pc := 31) X dX5_keepVersion_31 (tgt := 2) (by decide) ?_
      exact ih (x1 + 1) (bS lt1 5 (aS (lt1 5) (((lt1 6 0) * 8) + x1) (lt1 3 x1)))
set_option maxRecDepth 100000 in
set_option maxHeartbeats 4000000 in
theorem t_X5_keepVersion (N : Nat) (lt b c ms rd m : Bd) (P : PL) (K : KT) (X : Kok K cX5_keepVersion yX5_keepVersion.cls lw_g ({ frames := 1, cells := 0, slots := 0, locals := 21 } : Room) none 2) : Rn K (Q_X5_keepVersion K lt b c ms rd m P) 0 0 (f_X5_keepVersion N lt P) 0 [(0, .ref (kB K + 0))] [] (Zw (kE K) lt b c ms rd m P) := by
  unfold f_X5_keepVersion
  refine r_iconst (pc := 0) X 0 dX5_keepVersion_0 (by decide) ?_
  refine r_istore_n (pc := 1) (lv' := [(0, .ref (kB K + 0)), (1, vI 0)]) X [1, 0] dX5_keepVersion_1 rfl (by decide) rfl ?_
  refine t_X5_keepVersion_L2 N lt b c ms rd m P   K X _ ?_ N 0 lt
  intro lt_2
  refine r_aload_n (pc := 34) X 0 dX5_keepVersion_34 rfl rfl ?_
  refine r_aload_n (pc := 35) X 0 dX5_keepVersion_35 rfl rfl ?_
  refine r_get (pc := 36) (v := vI (lt_2 6 0)) X 0 6 inX5 rfl rfl (by decide) tf_X5_204 rfl dX5_keepVersion_36 ?_
  refine r_iconst (pc := 39) X 1 dX5_keepVersion_39 (by decide) ?_
  refine r_iadd (pc := 40) X dX5_keepVersion_40 ?_
  refine r_bipush (pc := 41) X 8 dX5_keepVersion_41 (by decide) ?_
  refine r_jn (J := fun j56 => ∀ (s1_56 : Int), Rn K (Q_X5_keepVersion K lt b c ms rd m P) 0 0 (j56 s1_56) 56 [(0, .ref (kB K + 0))] [vI s1_56, .ref (kB K + 0)] (Zw (kE K) lt_2 b c ms rd m P)) ?_ (fun j56 hj56 => ?_)
  · intro s1_56
    refine r_put (pc := 56) (ws' := (Zw (kE K) (bs0 lt_2 6 s1_56) b c ms rd m P)) X 0 6 inX5 tyX5 tyX5_ok nmX5 rfl rfl (by decide) tf_X5_204 rfl (tyX5_ok 6 (by decide)) rfl rfl (Nat.le_of_ble_eq_true rfl) rfl dX5_keepVersion_56 ?_
    refine r_aload_n (pc := 59) X 0 dX5_keepVersion_59 rfl rfl ?_
    refine r_bipush (pc := 60) X 8 dX5_keepVersion_60 (by decide) ?_
    refine r_aload_n (pc := 62) X 0 dX5_keepVersion_62 rfl rfl ?_
    refine r_get (pc := 63) (v := vI (lt_2 7 0)) X 0 7 inX5 rfl rfl (by decide) tf_X5_201 rfl dX5_keepVersion_63 ?_
    refine r_iconst (pc := 66) X 1 dX5_keepVersion_66 (by decide) ?_
    refine r_iadd (pc := 67) X dX5_keepVersion_67 ?_
    refine r_ck1 (fun h6 => ?_)
    refine r_min (pc := 68) X (by decide) h6 tl_X5_223 tt_min tn_math tc_min ⟨by decide, (by simp [z_cat, z_catR, z_catI, z_catL]), by decide, by decide⟩ dX5_keepVersion_68 ?_
    refine r_put (pc := 71) (ws' := (Zw (kE K) (bs0 (bs0 lt_2 6 s1_56) 7 (min 8 ((lt_2 7 0) + 1))) b c ms rd m P)) X 0 7 inX5 tyX5 tyX5_ok nmX5 rfl rfl (by decide) tf_X5_201 rfl (tyX5_ok 7 (by decide)) rfl rfl (Nat.le_of_ble_eq_true rfl) rfl dX5_keepVersion_71 ?_
    exact r_vret (pc := 74) X rfl rfl (by decide) dX5_keepVersion_74
  refine r_ck1 (fun h7 => ?_)
  refine r_icmp_ne (pc := 43) X h7 (by decide) dX5_keepVersion_43 (tgt := 50) (by decide) (fun h8 => ?_) (fun h8 => ?_)
  · refine r_aload_n (pc := 50) X 0 dX5_keepVersion_50 rfl rfl ?_
    refine r_get (pc := 51) (v := vI (lt_2 6 0)) X 0 6 inX5 rfl rfl (by decide) tf_X5_204 rfl dX5_keepVersion_51 ?_
    refine r_iconst (pc := 54) X 1 dX5_keepVersion_54 (by decide) ?_
    refine r_iadd (pc := 55) X dX5_keepVersion_55 ?_
    exact hj56 ((lt_2 6 0) + 1)
  · refine r_iconst (pc := 46) X 0 dX5_keepVersion_46 (by decide) ?_
    refine r_goto (pc := 47) X dX5_keepVersion_47 (tgt := 56) (by decide) ?_
    exact hj56 0
theorem c_X5_keepVersion (N : Nat) (lt b c ms rd m : Bd) (P : PL) (l : Launch) (D : va_G) (E : ET) (a : Bd) (ha : f_X5_keepVersion N lt P = some a) : Ct l yX5_keepVersion (Cond.code yX5_keepVersion cX5_keepVersion 2 none :: lw_g) ({ frames := 1, cells := 0, slots := 0, locals := 21 } : Room) D E [.ref (E.2.2.2 + 0)] (Zw E lt b c ms rd m P) (Zw E a b c ms rd m P) (none) :=
  ct_of (av := fun E => [.ref (E.2.2.2 + 0)]) (W0 := fun E => Zw E lt b c ms rd m P) (W1 := fun E (a : Bd) => Zw E a b c ms rd m P) (rw := fun E a => none) (by decide) rfl (fun E => Zw_d E lt b c ms rd m P) (fun E => by simp [lg_sl, z_cat, z_catR, z_catI, z_catL]) (fun K X => r_lv (by simp [lv_args, z_cat, z_catR, z_catI, z_catL]) (t_X5_keepVersion N lt b c ms rd m P  K X)) l D E a ha
abbrev Q_X5_read (K : KT) (lt b c ms rd m : Bd) (P : PL) : (Int × Bd × Bd × Bd × PL) → State → Prop := Qm K ({ frames := 6, cells := 16, slots := 976, locals := 136 } : Room) (fun a : Int × Bd × Bd × Bd × PL => Zw (kE K) a.2.1 a.2.2.1 c ms a.2.2.2.1 m a.2.2.2.2) (fun a => some (vI a.1))
set_option maxRecDepth 100000 in
set_option maxHeartbeats 4000000 in
theorem t_X5_read_L55 (N : Nat) (lt b c ms rd m : Bd) (P : PL) (rd1 : Bd) (x2 : Int) (K : KT) (X : Kok K cX5_read yX5_read.cls lw_g ({ frames := 6, cells := 16, slots := 976, locals := 136 } : Room) (some .int) 4) (k : Bd → Bd → PL → Option (Int × Bd × Bd × Bd × PL)) (hk : ∀ (lt1 : Bd) (b1 : Bd) (P1 : PL), Rn K (Q_X5_read K lt b c ms rd m P) 16 976 (k lt1 b1 P1) 101 [(0, .ref (kB K + 0)), (2, vI x2)] [] (Zw (kE K) lt1 b1 c ms rd1 m P1)) : ∀ (n : Nat) (x3 : Int) (lt1 : Bd) (b1 : Bd) (P1 : PL), 0 ≤ x3 ∧ x3 ≤ 8 → Rn K (Q_X5_read K lt b c ms rd m P) (2 * x3.toNat) (122 * x3.toNat) (f_X5_read_L55 N rd1 x2 k n x3 lt1 b1 P1) 55 [(0, .ref (kB K + 0)), (2, vI x2), (3, vI x3)] [] (Zw (kE K) lt1 b1 c ms rd1 m P1) := by
  intro n
  induction n with
  | zero =>
    intro x3 lt1 b1 P1 hx
    rw [f_X5_read_L55]
    exact r_none
  | succ n ih =>
    intro x3 lt1 b1 P1 hx
    rw [f_X5_read_L55]
    refine r_iload_n (pc := 55) X 2 dX5_read_55 rfl rfl ?_
    refine r_iload_n (pc := 56) X 1 dX5_read_56 rfl rfl ?_
    refine r_ck1 (fun h6 => ?_)
    refine r_ck1 (fun h7 => ?_)
    refine r_icmp_ge (pc := 57) X h6 h7 dX5_read_57 (tgt := 101) (by decide) (fun h8 => ?_) (fun h8 => ?_)
    · refine r_sub [0, 1] rfl ?_
      exact r_widen (by omega) (by omega) (hk lt1 b1 P1)
    · refine r_aload_n (pc := 60) X 0 dX5_read_60 rfl rfl ?_
      refine r_get (pc := 61) (v := .ref (kB K + 3)) X 0 4 inX5 rfl rfl (by decide) tf_X5_19 rfl dX5_read_61 ?_
      refine r_iload_n (pc := 64) X 2 dX5_read_64 rfl rfl ?_
      refine r_aload_n (pc := 65) X 0 dX5_read_65 rfl rfl ?_
      refine r_get (pc := 66) (v := .ref (kB K + 5)) X 0 11 inX5 rfl rfl (by decide) tf_X5_28 rfl dX5_read_66 ?_
      refine r_aload_n (pc := 69) X 0 dX5_read_69 rfl rfl ?_
      refine r_get (pc := 70) (v := .ref (kB K + 24)) X 0 14 inX5 rfl rfl (by decide) tf_X5_49 rfl dX5_read_70 ?_
      refine r_iload_n (pc := 73) X 2 dX5_read_73 rfl rfl ?_
      refine r_callV (pc := 74) (q0 := 24) (ci := 4) (As := [vI x3]) (rest := [.ref (kB K + 5), vI x3, .ref (kB K + 3)]) (W' := fun q74_9 => (Zw (kE K) lt1 b1 c ms rd1 m P1)) (rv := fun q74_9 => some (vI q74_9)) X dX5_read_74 rfl (fun a ha => c_X4_rootOf N lt1 b1 c ms rd1 m P1 x3 K.1.2.1 K.2.2.1.1 (kE K) a ha) (fun a => Zw_d _ _ _ _ _ _ _ _) gd_X5_75 rfl (n := 1) (by decide) rfl ⟨by decide, by decide, by dsimp only; omega, by dsimp only; omega⟩ rfl rfl rfl (by simp [z_cat, z_catR, z_catI, z_catL]) (fun q74_9 eq74_9 => ?_)
      show Rn K _ (2 * x3.toNat) (122 * x3.toNat) _ 77 [(0, .ref (kB K + 0)), (2, vI x2), (3, vI x3)] [vI q74_9, .ref (kB K + 5), vI x3, .ref (kB K + 3)] (Zw (kE K) lt1 b1 c ms rd1 m P1)
      refine r_ckA (fun h10 => ?_)
      refine r_callV (pc := 77) (q0 := 5) (ci := 0) (As := [vI q74_9]) (rest := [vI x3, .ref (kB K + 3)]) (W' := fun q77_11 => (Zw (kE K) lt1 q77_11.2.1 c ms rd1 m q77_11.2.2)) (rv := fun q77_11 => some (vG (kB K) q77_11.1)) X dX5_read_77 rfl (fun a ha => c_X0_smallest N lt1 b1 c ms rd1 m P1 q74_9 K.1.2.1 K.2.2.1.1 (kE K) a ha) (fun a => Zw_d _ _ _ _ _ _ _ _) gd_X5_79 rfl (n := 1) (by decide) rfl ⟨by decide, by decide, by dsimp only; omega, by dsimp only; omega⟩ rfl rfl rfl (by simp [z_cat, z_catR, z_catI, z_catL]) (fun q77_11 eq77_11 => ?_)
      show Rn K _ (2 * x3.toNat + 2) (122 * x3.toNat + 122) _ 80 [(0, .ref (kB K + 0)), (2, vI x2), (3, vI x3)] [vG (kB K) q77_11.1, vI x3, .ref (kB K + 3)] (Zw (kE K) lt1 q77_11.2.1 c ms rd1 m q77_11.2.2)
      refine r_ckN (fun h12 => ?_)
      refine r_aastG (pc := 80) (f := lt1 4) (ws' := (Zw (kE K) (bS lt1 4 (aS (lt1 4) x3 q77_11.1)) q77_11.2.1 c ms rd1 m q77_11.2.2)) X 3 h10 zl_8 h12 rfl rfl dX5_read_80 ?_
      refine r_aload_n (pc := 81) X 0 dX5_read_81 rfl rfl ?_
      refine r_get (pc := 82) (v := .ref (kB K + 3)) X 0 4 inX5 rfl rfl (by decide) tf_X5_19 rfl dX5_read_82 ?_
      refine r_iload_n (pc := 85) X 2 dX5_read_85 rfl rfl ?_
      refine r_aald (pc := 86) (f := aS (lt1 4) x3 q77_11.1) X 3 h10 zl_8 rfl dX5_read_86 ?_
      refine r_ifnonnull (pc := 87) X dX5_read_87 (tgt := 95) (by decide) (fun h13 => ?_) (fun h13 => ?_)
      · refine r_aload_n (pc := 90) X 0 dX5_read_90 rfl rfl ?_
        refine r_callV (pc := 91) (q0 := 0) (ci := 5) (As := []) (rest := []) (W' := fun q91_14 => (Zw (kE K) q91_14.2 q77_11.2.1 c ms rd1 m q77_11.2.2)) (rv := fun q91_14 => some (vI q91_14.1)) X dX5_read_91 rfl (fun a ha => c_X5_refuseFull N (bS lt1 4 (aS (lt1 4) x3 q77_11.1)) q77_11.2.1 c ms rd1 m q77_11.2.2 K.1.2.1 K.2.2.1.1 (kE K) a ha) (fun a => Zw_d _ _ _ _ _ _ _ _) gd_X5_61 rfl (n := 0) (by decide) rfl ⟨by decide, by decide, by dsimp only; omega, by dsimp only; omega⟩ rfl rfl rfl (Nat.zero_le _) (fun q91_14 eq91_14 => ?_)
        show Rn K _ (2 * x3.toNat + 2) (122 * x3.toNat + 122) _ 94 [(0, .ref (kB K + 0)), (2, vI x2), (3, vI x3)] [vI q91_14.1] (Zw (kE K) q91_14.2 q77_11.2.1 c ms rd1 m q77_11.2.2)
        exact r_iret (pc := 94) X rfl rfl (by constructor <;> dsimp only <;> omega) dX5_read_94
      · refine r_iinc (pc := 95) (lv' := [(0, .ref (kB K + 0)), (2, vI x2), (3, vI (x3 + 1))]) X 2 [1, 2, 0] dX5_read_95 rfl (by decide) rfl ?_
        refine r_goto (pc := 98) X dX5_read_98 (tgt := 55) (by decide) ?_
        exact r_widen (c2 := 2 * (x3 + 1).toNat) (s2 := 122 * (x3 + 1).toNat) (by omega) (by omega) (ih (x3 + 1) (bS lt1 4 (aS (lt1 4) x3 q77_11.1)) q77_11.2.1 q77_11.2.2 ⟨by omega, by omega⟩)
set_option maxRecDepth 100000 in
set_option maxHeartbeats 4000000 in
theorem t_X5_read_L107 (N : Nat) (lt b c ms rd m : Bd) (P : PL) (b1 : Bd) (rd1 : Bd) (P1 : PL) (x2 : Int) (K : KT) (X : Kok K cX5_read yX5_read.cls lw_g ({ frames := 6, cells := 16, slots := 976, locals := 136 } : Room) (some .int) 4) (k : Bd → Option (Int × Bd × Bd × Bd × PL)) (hk : ∀ (lt1 : Bd), Rn K (Q_X5_read K lt b c ms rd m P) 16 976 (k lt1) 137 [(2, vI x2)] [] (Zw (kE K) lt1 b1 c ms rd1 m P1)) : ∀ (n : Nat) (x3 : Int) (lt1 : Bd), Rn K (Q_X5_read K lt b c ms rd m P) 16 976 (f_X5_read_L107 rd1 P1 x2 k n x3 lt1) 107 [(0, .ref (kB K + 0)), (2, vI x2), (3, vI x3)] [] (Zw (kE K) lt1 b1 c ms rd1 m P1) := by
  intro n
  induction n with
  | zero =>
    intro x3 lt1
    rw [f_X5_read_L107]
    exact r_none
  | succ n ih =>
    intro x3 lt1
    rw [f_X5_read_L107]
    refine r_iload_n (pc := 107) X 2 dX5_read_107 rfl rfl ?_
    refine r_iload_n (pc := 108) X 1 dX5_read_108 rfl rfl ?_
    refine r_ck1 (fun h16 => ?_)
    refine r_ck1 (fun h17 => ?_)
    refine r_icmp_ge (pc := 109) X h16 h17 dX5_read_109 (tgt := 137) (by decide) (fun h18 => ?_) (fun h18 => ?_)
    · refine r_sub [1] rfl ?_
      exact hk lt1
    · refine r_aload_n (pc := 112) X 0 dX5_read_112 rfl rfl ?_
      refine r_get (pc := 113) (v := .ref (kB K + 2)) X 0 3 inX5 rfl rfl (by decide) tf_X5_15 rfl dX5_read_113 ?_
      refine r_aload_n (pc := 116) X 0 dX5_read_116 rfl rfl ?_
      refine r_get (pc := 117) (v := .ref (kB K + 24)) X 0 14 inX5 rfl rfl (by decide) tf_X5_49 rfl dX5_read_117 ?_
      refine r_iload_n (pc := 120) X 2 dX5_read_120 rfl rfl ?_
      refine r_callV (pc := 121) (q0 := 24) (ci := 4) (As := [vI x3]) (rest := [.ref (kB K + 2)]) (W' := fun q121_19 => (Zw (kE K) lt1 b1 c ms rd1 m P1)) (rv := fun q121_19 => some (vI q121_19)) X dX5_read_121 rfl (fun a ha => c_X4_letterOf N lt1 b1 c ms rd1 m P1 x3 K.1.2.1 K.2.2.1.1 (kE K) a ha) (fun a => Zw_d _ _ _ _ _ _ _ _) gd_X5_86 rfl (n := 1) (by decide) rfl (by decide) rfl rfl rfl (by simp [z_cat, z_catR, z_catI, z_catL]) (fun q121_19 eq121_19 => ?_)
      show Rn K _ 16 976 _ 124 [(0, .ref (kB K + 0)), (2, vI x2), (3, vI x3)] [vI q121_19, .ref (kB K + 2)] (Zw (kE K) lt1 b1 c ms rd1 m P1)
      refine r_aload_n (pc := 124) X 0 dX5_read_124 rfl rfl ?_
      refine r_get (pc := 125) (v := .ref (kB K + 3)) X 0 4 inX5 rfl rfl (by decide) tf_X5_19 rfl dX5_read_125 ?_
      refine r_iload_n (pc := 128) X 2 dX5_read_128 rfl rfl ?_
      refine r_ckA (fun h20 => ?_)
      refine r_aald (pc := 129) (f := lt1 4) X 3 h20 zl_8 rfl dX5_read_129 ?_
      refine r_ckA (fun h21 => ?_)
      refine r_ckN (fun h22 => ?_)
      refine r_aastG (pc := 130) (f := lt1 3) (ws' := (Zw (kE K) (bS lt1 3 (aS (lt1 3) q121_19 (lt1 4 x3))) b1 c ms rd1 m P1)) X 2 h21 zl_8 h22 rfl rfl dX5_read_130 ?_
      refine r_iinc (pc := 131) (lv' := [(0, .ref (kB K + 0)), (2, vI x2), (3, vI (x3 + 1))]) X 2 [1, 2, 0] dX5_read_131 rfl (by decide) rfl ?_
      refine r_goto (pc := 134) X dX5_read_134 (tgt := 107) (by decide) ?_
      exact ih (x3 + 1) (bS lt1 3 (aS (lt1 3) q121_19 (lt1 4 x3)))
set_option maxRecDepth 100000 in
set_option maxHeartbeats 4000000 in
theorem t_X5_read (N : Nat) (lt b c ms rd m : Bd) (P : PL) (K : KT) (X : Kok K cX5_read yX5_read.cls lw_g ({ frames := 6, cells := 16, slots := 976, locals := 136 } : Room) (some .int) 4) : Rn K (Q_X5_read K lt b c ms rd m P) 0 0 (f_X5_read N lt b rd P) 0 [(0, .ref (kB K + 0))] [] (Zw (kE K) lt b c ms rd m P) := by
  unfold f_X5_read
  refine r_aload_n (pc := 0) X 0 dX5_read_0 rfl rfl ?_
  refine r_get (pc := 1) (v := .ref (kB K + 24)) X 0 14 inX5 rfl rfl (by decide) tf_X5_49 rfl dX5_read_1 ?_
  refine r_aload_n (pc := 4) X 0 dX5_read_4 rfl rfl ?_
  refine r_get (pc := 5) (v := .ref (kB K + 1)) X 0 0 inX5 rfl rfl (by decide) tf_X5_9 rfl dX5_read_5 ?_
  refine r_aload_n (pc := 8) X 0 dX5_read_8 rfl rfl ?_
  refine r_get (pc := 9) (v := vI (lt 1 0)) X 0 1 inX5 rfl rfl (by decide) tf_X5_57 rfl dX5_read_9 ?_
  refine r_aload_n (pc := 12) X 0 dX5_read_12 rfl rfl ?_
  refine r_get (pc := 13) (v := .ref (kB K + 2)) X 0 3 inX5 rfl rfl (by decide) tf_X5_15 rfl dX5_read_13 ?_
  refine r_callV (pc := 16) (q0 := 24) (ci := 4) (As := [.ref (kB K + 1), vI (lt 1 0), .ref (kB K + 2)]) (rest := []) (W' := fun q16_1 => (Zw (kE K) lt b c ms q16_1.2 m P)) (rv := fun q16_1 => some (vI q16_1.1)) X dX5_read_16 rfl (fun a ha => c_X4_faultOf N lt b c ms rd m P (lt 1 0) K.1.2.1 K.2.2.1.1 (kE K) a ha) (fun a => Zw_d _ _ _ _ _ _ _ _) gd_X5_64 rfl (n := 3) (by decide) rfl (by decide) rfl rfl rfl (Nat.zero_le _) (fun q16_1 eq16_1 => ?_)
  show Rn K _ 0 0 _ 19 [(0, .ref (kB K + 0))] [vI q16_1.1] (Zw (kE K) lt b c ms q16_1.2 m P)
  refine r_istore_n (pc := 19) (lv' := [(0, .ref (kB K + 0)), (1, vI q16_1.1)]) X [1, 0] dX5_read_19 rfl (by decide) rfl ?_
  refine r_iload_n (pc := 20) X 1 dX5_read_20 rfl rfl ?_
  refine r_iconst (pc := 21) X (-1) dX5_read_21 (by decide) ?_
  refine r_ck1 (fun h2 => ?_)
  refine r_icmp_eq (pc := 22) X h2 (by decide) dX5_read_22 (tgt := 30) (by decide) (fun h3 => ?_) (fun h3 => ?_)
  · refine r_aload_n (pc := 30) X 0 dX5_read_30 rfl rfl ?_
    refine r_get (pc := 31) (v := .ref (kB K + 24)) X 0 14 inX5 rfl rfl (by decide) tf_X5_49 rfl dX5_read_31 ?_
    refine r_aload_n (pc := 34) X 0 dX5_read_34 rfl rfl ?_
    refine r_get (pc := 35) (v := .ref (kB K + 5)) X 0 11 inX5 rfl rfl (by decide) tf_X5_28 rfl dX5_read_35 ?_
    refine r_aload_n (pc := 38) X 0 dX5_read_38 rfl rfl ?_
    refine r_get (pc := 39) (v := .ref (kB K + 2)) X 0 3 inX5 rfl rfl (by decide) tf_X5_15 rfl dX5_read_39 ?_
    refine r_callV (pc := 42) (q0 := 24) (ci := 4) (As := [.ref (kB K + 5), .ref (kB K + 2)]) (rest := []) (W' := fun q42_4 => (Zw (kE K) lt q42_4.1 c ms q42_4.2 m P)) (rv := fun q42_4 => none) X dX5_read_42 rfl (fun a ha => c_X4_layOut N lt b c ms q16_1.2 m P K.1.2.1 K.2.2.1.1 (kE K) a ha) (fun a => Zw_d _ _ _ _ _ _ _ _) gd_X5_68 rfl (n := 2) (by decide) rfl (by decide) rfl rfl rfl (Nat.zero_le _) (fun q42_4 eq42_4 => ?_)
    show Rn K _ 0 0 _ 45 [(0, .ref (kB K + 0)), (1, vI q16_1.1)] [] (Zw (kE K) lt q42_4.1 c ms q42_4.2 m P)
    refine r_aload_n (pc := 45) X 0 dX5_read_45 rfl rfl ?_
    refine r_get (pc := 46) (v := .ref (kB K + 24)) X 0 14 inX5 rfl rfl (by decide) tf_X5_49 rfl dX5_read_46 ?_
    refine r_callV (pc := 49) (q0 := 24) (ci := 4) (As := []) (rest := []) (W' := fun q49_5 => (Zw (kE K) lt q42_4.1 c ms q42_4.2 m P)) (rv := fun q49_5 => some (vI q49_5)) X dX5_read_49 rfl (fun a ha => c_X4_equationCount N lt q42_4.1 c ms q42_4.2 m P K.1.2.1 K.2.2.1.1 (kE K) a ha) (fun a => Zw_d _ _ _ _ _ _ _ _) gd_X5_72 rfl (n := 0) (by decide) rfl (by decide) rfl rfl rfl (Nat.zero_le _) (fun q49_5 eq49_5 => ?_)
    show Rn K _ 0 0 _ 52 [(0, .ref (kB K + 0)), (1, vI q16_1.1)] [vI q49_5] (Zw (kE K) lt q42_4.1 c ms q42_4.2 m P)
    refine r_istore_n (pc := 52) (lv' := [(0, .ref (kB K + 0)), (1, vI q16_1.1), (2, vI q49_5)]) X [1, 2, 0] dX5_read_52 rfl (by decide) rfl ?_
    refine r_iconst (pc := 53) X 0 dX5_read_53 (by decide) ?_
    refine r_istore_n (pc := 54) (lv' := [(0, .ref (kB K + 0)), (1, vI q16_1.1), (2, vI q49_5), (3, vI 0)]) X [1, 2, 3, 0] dX5_read_54 rfl (by decide) rfl ?_
    refine r_sub [0, 2, 3] rfl ?_
    refine t_X5_read_L55 N lt b c ms rd m P q42_4.2 q49_5 K X _ ?_ N 0 lt q42_4.1 P (by decide)
    intro lt_55 b_55 P_55
    refine r_aload_n (pc := 101) X 0 dX5_read_101 rfl rfl ?_
    refine r_callV (pc := 102) (q0 := 0) (ci := 5) (As := []) (rest := []) (W' := fun q102_15 => (Zw (kE K) q102_15 b_55 c ms q42_4.2 m P_55)) (rv := fun q102_15 => none) X dX5_read_102 rfl (fun a ha => c_X5_keepVersion N lt_55 b_55 c ms q42_4.2 m P_55 K.1.2.1 K.2.2.1.1 (kE K) a ha) (fun a => Zw_d _ _ _ _ _ _ _ _) gd_X5_83 rfl (n := 0) (by decide) rfl (by decide) rfl rfl rfl (Nat.zero_le _) (fun q102_15 eq102_15 => ?_)
    show Rn K _ 16 976 _ 105 [(0, .ref (kB K + 0)), (2, vI q49_5)] [] (Zw (kE K) q102_15 b_55 c ms q42_4.2 m P_55)
    refine r_iconst (pc := 105) X 0 dX5_read_105 (by decide) ?_
    refine r_istore_n (pc := 106) (lv' := [(0, .ref (kB K + 0)), (2, vI q49_5), (3, vI 0)]) X [1, 2, 0] dX5_read_106 rfl (by decide) rfl ?_
    refine t_X5_read_L107 N lt b c ms rd m P b_55 q42_4.2 P_55 q49_5 K X _ ?_ N 0 q102_15
    intro lt_107
    refine r_iload_n (pc := 137) X 0 dX5_read_137 rfl rfl ?_
    exact r_iret (pc := 138) X rfl rfl (by decide) dX5_read_138
  · refine r_bipush (pc := 25) X (-10) dX5_read_25 (by decide) ?_
    refine r_iload_n (pc := 27) X 1 dX5_read_27 rfl rfl ?_
    refine r_isub (pc := 28) X dX5_read_28 ?_
    exact r_iret (pc := 29) X rfl rfl (by decide) dX5_read_29
theorem c_X5_read (N : Nat) (lt b c ms rd m : Bd) (P : PL) (l : Launch) (D : va_G) (E : ET) (a : Int × Bd × Bd × Bd × PL) (ha : f_X5_read N lt b rd P = some a) : Ct l yX5_read (Cond.code yX5_read cX5_read 4 (some .int) :: lw_g) ({ frames := 6, cells := 16, slots := 976, locals := 136 } : Room) D E [.ref (E.2.2.2 + 0)] (Zw E lt b c ms rd m P) (Zw E a.2.1 a.2.2.1 c ms a.2.2.2.1 m a.2.2.2.2) (some (vI a.1)) :=
  ct_of (av := fun E => [.ref (E.2.2.2 + 0)]) (W0 := fun E => Zw E lt b c ms rd m P) (W1 := fun E (a : Int × Bd × Bd × Bd × PL) => Zw E a.2.1 a.2.2.1 c ms a.2.2.2.1 m a.2.2.2.2) (rw := fun E a => some (vI a.1)) (by decide) rfl (fun E => Zw_d E lt b c ms rd m P) (fun E => by simp [lg_sl, z_cat, z_catR, z_catI, z_catL]) (fun K X => r_lv (by simp [lv_args, z_cat, z_catR, z_catI, z_catL]) (t_X5_read N lt b c ms rd m P  K X)) l D E a ha
abbrev Q_X5_order (K : KT) (lt b c ms rd m : Bd) (P : PL) : (Int × Bd) → State → Prop := Qm K ({ frames := 1, cells := 0, slots := 0, locals := 20 } : Room) (fun a : Int × Bd => Zw (kE K) a.2 b c ms rd m P) (fun a => some (vI a.1))
set_option maxRecDepth 100000 in
set_option maxHeartbeats 4000000 in
theorem t_X5_order (N : Nat) (lt b c ms rd m : Bd) (P : PL) (x1 : Int) (K : KT) (X : Kok K cX5_order yX5_order.cls lw_g ({ frames := 1, cells := 0, slots := 0, locals := 20 } : Room) (some .int) 3) : Rn K (Q_X5_order K lt b c ms rd m P) 0 0 (f_X5_order lt x1) 0 [(0, .ref (kB K + 0)), (1, vI x1)] [] (Zw (kE K) lt b c ms rd m P) := by
  unfold f_X5_order
  refine r_iload_n (pc := 0) X 1 dX5_order_0 rfl rfl ?_
  refine r_jn (J := fun j9 => Rn K (Q_X5_order K lt b c ms rd m P) 0 0 j9 9 [(0, .ref (kB K + 0))] [] (Zw (kE K) lt b c ms rd m P)) ?_ (fun j9 hj9 => ?_)
  · skip
    refine r_aload_n (pc := 9) X 0 dX5_order_9 rfl rfl ?_
    refine r_callV (pc := 10) (q0 := 0) (ci := 5) (As := []) (rest := []) (W' := fun q10_1 => (Zw (kE K) q10_1.2 b c ms rd m P)) (rv := fun q10_1 => some (vI q10_1.1)) X dX5_order_10 rfl (fun a ha => c_X5_refuseBad N lt b c ms rd m P K.1.2.1 K.2.2.1.1 (kE K) a ha) (fun a => Zw_d _ _ _ _ _ _ _ _) gd_X5_53 rfl (n := 0) (by decide) rfl (by decide) rfl rfl rfl (Nat.zero_le _) (fun q10_1 eq10_1 => ?_)
    show Rn K _ 0 0 _ 13 [(0, .ref (kB K + 0))] [vI q10_1.1] (Zw (kE K) q10_1.2 b c ms rd m P)
    exact r_iret (pc := 13) X rfl rfl (by decide) dX5_order_13
  refine r_ck1 (fun h2 => ?_)
  refine r_iflt (pc := 1) X h2 dX5_order_1 (tgt := 9) (by decide) (fun h3 => ?_) (fun h3 => ?_)
  · refine r_sub [0] rfl ?_
    exact hj9
  · refine r_iload_n (pc := 4) X 1 dX5_order_4 rfl rfl ?_
    refine r_iconst (pc := 5) X 4 dX5_order_5 (by decide) ?_
    refine r_icmp_le (pc := 6) X h2 (by decide) dX5_order_6 (tgt := 14) (by decide) (fun h4 => ?_) (fun h4 => ?_)
    · refine r_aload_n (pc := 14) X 0 dX5_order_14 rfl rfl ?_
      refine r_get (pc := 15) (v := vI (lt 2 0)) X 0 2 inX5 rfl rfl (by decide) tf_X5_89 rfl dX5_order_15 ?_
      refine r_istore_n (pc := 18) (lv' := [(0, .ref (kB K + 0)), (1, vI x1), (2, vI (lt 2 0))]) X [1, 2, 0] dX5_order_18 rfl (by decide) rfl ?_
      refine r_aload_n (pc := 19) X 0 dX5_order_19 rfl rfl ?_
      refine r_iload_n (pc := 20) X 1 dX5_order_20 rfl rfl ?_
      refine r_put (pc := 21) (ws' := (Zw (kE K) (bs0 lt 2 x1) b c ms rd m P)) X 0 2 inX5 tyX5 tyX5_ok nmX5 rfl rfl (by decide) tf_X5_89 rfl (tyX5_ok 2 (by decide)) rfl rfl (Nat.le_of_ble_eq_true rfl) rfl dX5_order_21 ?_
      refine r_iload_n (pc := 24) X 2 dX5_order_24 rfl rfl ?_
      exact r_iret (pc := 25) X rfl rfl (by decide) dX5_order_25
    · refine r_sub [0] rfl ?_
      exact hj9
theorem c_X5_order (N : Nat) (lt b c ms rd m : Bd) (P : PL) (x1 : Int) (l : Launch) (D : va_G) (E : ET) (a : Int × Bd) (ha : f_X5_order lt x1 = some a) : Ct l yX5_order (Cond.code yX5_order cX5_order 3 (some .int) :: lw_g) ({ frames := 1, cells := 0, slots := 0, locals := 20 } : Room) D E [.ref (E.2.2.2 + 0), vI x1] (Zw E lt b c ms rd m P) (Zw E a.2 b c ms rd m P) (some (vI a.1)) :=
  ct_of (av := fun E => [.ref (E.2.2.2 + 0), vI x1]) (W0 := fun E => Zw E lt b c ms rd m P) (W1 := fun E (a : Int × Bd) => Zw E a.2 b c ms rd m P) (rw := fun E a => some (vI a.1)) (by decide) rfl (fun E => Zw_d E lt b c ms rd m P) (fun E => by simp [lg_sl, z_cat, z_catR, z_catI, z_catL]) (fun K X => r_lv (by simp [lv_args, z_cat, z_catR, z_catI, z_catL]) (t_X5_order N lt b c ms rd m P x1 K X)) l D E a ha
abbrev Q_X5_isName (K : KT) (lt b c ms rd m : Bd) (P : PL) : (Int) → State → Prop := Qm K ({ frames := 0, cells := 0, slots := 0, locals := 0 } : Room) (fun a : Int => Zw (kE K) lt b c ms rd m P) (fun a => some (vI a))
set_option maxRecDepth 100000 in
set_option maxHeartbeats 4000000 in
theorem t_X5_isName (N : Nat) (lt b c ms rd m : Bd) (P : PL) (x0 : Int) (K : KT) (X : Kok K cX5_isName yX5_isName.cls lw_g ({ frames := 0, cells := 0, slots := 0, locals := 0 } : Room) (some .boolean) 1) : Rn K (Q_X5_isName K lt b c ms rd m P) 0 0 (f_X5_isName x0) 0 [(0, vI x0)] [] (Zw (kE K) lt b c ms rd m P) := by
  unfold f_X5_isName
  refine r_iload_n (pc := 0) X 0 dX5_isName_0 rfl rfl ?_
  refine r_ck1 (fun h1 => ?_)
  refine r_iflt (pc := 1) X h1 dX5_isName_1 (tgt := 14) (by decide) (fun h2 => ?_) (fun h2 => ?_)
  · refine r_iconst (pc := 14) X 0 dX5_isName_14 (by decide) ?_
    exact r_zret (pc := 15) X (by decide) rfl rfl (by decide) dX5_isName_15
  · refine r_iload_n (pc := 4) X 0 dX5_isName_4 rfl rfl ?_
    refine r_bipush (pc := 5) X 8 dX5_isName_5 (by decide) ?_
    refine r_icmp_ge (pc := 7) X h1 (by decide) dX5_isName_7 (tgt := 14) (by decide) (fun h3 => ?_) (fun h3 => ?_)
    · refine r_iconst (pc := 14) X 0 dX5_isName_14 (by decide) ?_
      exact r_zret (pc := 15) X (by decide) rfl rfl (by decide) dX5_isName_15
    · refine r_iconst (pc := 10) X 1 dX5_isName_10 (by decide) ?_
      refine r_goto (pc := 11) X dX5_isName_11 (tgt := 15) (by decide) ?_
      exact r_zret (pc := 15) X (by decide) rfl rfl (by decide) dX5_isName_15
theorem c_X5_isName (N : Nat) (lt b c ms rd m : Bd) (P : PL) (x0 : Int) (l : Launch) (D : va_G) (E : ET) (a : Int) (ha : f_X5_isName x0 = some a) : Ct l yX5_isName (Cond.code yX5_isName cX5_isName 1 (some .boolean) :: lw_g) ({ frames := 0, cells := 0, slots := 0, locals := 0 } : Room) D E [vI x0] (Zw E lt b c ms rd m P) (Zw E lt b c ms rd m P) (some (vI a)) :=
  ct_of (av := fun E => [vI x0]) (W0 := fun E => Zw E lt b c ms rd m P) (W1 := fun E (a : Int) => Zw E lt b c ms rd m P) (rw := fun E a => some (vI a)) (by decide) rfl (fun E => Zw_d E lt b c ms rd m P) (fun E => by simp [lg_sl, z_cat, z_catR, z_catI, z_catL]) (fun K X => r_lv (by simp [lv_args, z_cat, z_catR, z_catI, z_catL]) (t_X5_isName N lt b c ms rd m P x0 K X)) l D E a ha
abbrev Q_X5_graphOf (K : KT) (lt b c ms rd m : Bd) (P : PL) : (Int) → State → Prop := Qm K ({ frames := 1, cells := 0, slots := 0, locals := 20 } : Room) (fun a : Int => Zw (kE K) lt b c ms rd m P) (fun a => some (vG (kB K) a))
set_option maxRecDepth 100000 in
set_option maxHeartbeats 4000000 in
theorem t_X5_graphOf (N : Nat) (lt b c ms rd m : Bd) (P : PL) (x1 : Int) (K : KT) (X : Kok K cX5_graphOf yX5_graphOf.cls lw_g ({ frames := 1, cells := 0, slots := 0, locals := 20 } : Room) (some (.object "LoopTypes$Graph")) 2) : Rn K (Q_X5_graphOf K lt b c ms rd m P) 0 0 (f_X5_graphOf lt x1) 0 [(0, .ref (kB K + 0)), (1, vI x1)] [] (Zw (kE K) lt b c ms rd m P) := by
  unfold f_X5_graphOf
  refine r_iload_n (pc := 0) X 1 dX5_graphOf_0 rfl rfl ?_
  refine r_callS (pc := 1) (As := [vI x1]) (rest := []) (W' := fun q1_1 => (Zw (kE K) lt b c ms rd m P)) (rv := fun q1_1 => some (vI q1_1)) X dX5_graphOf_1 rfl (fun a ha => c_X5_isName N lt b c ms rd m P x1 K.1.2.1 K.2.2.1.1 (kE K) a ha) (fun a => Zw_d _ _ _ _ _ _ _ _) gd_X5_154 rfl (n := 1) (by decide) rfl (by decide) (Nat.zero_le _) (fun q1_1 eq1_1 => ?_)
  show Rn K _ 0 0 _ 4 [(0, .ref (kB K + 0)), (1, vI x1)] [vI q1_1] (Zw (kE K) lt b c ms rd m P)
  refine r_ck1 (fun h2 => ?_)
  refine r_ifeq (pc := 4) X h2 dX5_graphOf_4 (tgt := 16) (by decide) (fun h3 => ?_) (fun h3 => ?_)
  · refine r_gnull (pc := 16) (B := kB K) X dX5_graphOf_16 ?_
    exact r_gret (pc := 17) X rfl rfl (by decide) dX5_graphOf_17
  · refine r_aload_n (pc := 7) X 0 dX5_graphOf_7 rfl rfl ?_
    refine r_get (pc := 8) (v := .ref (kB K + 2)) X 0 3 inX5 rfl rfl (by decide) tf_X5_15 rfl dX5_graphOf_8 ?_
    refine r_iload_n (pc := 11) X 1 dX5_graphOf_11 rfl rfl ?_
    refine r_ckA (fun h4 => ?_)
    refine r_aald (pc := 12) (f := lt 3) X 2 h4 zl_8 rfl dX5_graphOf_12 ?_
    refine r_goto (pc := 13) X dX5_graphOf_13 (tgt := 17) (by decide) ?_
    exact r_gret (pc := 17) X rfl rfl (by decide) dX5_graphOf_17
theorem c_X5_graphOf (N : Nat) (lt b c ms rd m : Bd) (P : PL) (x1 : Int) (l : Launch) (D : va_G) (E : ET) (a : Int) (ha : f_X5_graphOf lt x1 = some a) : Ct l yX5_graphOf (Cond.code yX5_graphOf cX5_graphOf 2 (some (.object "LoopTypes$Graph")) :: lw_g) ({ frames := 1, cells := 0, slots := 0, locals := 20 } : Room) D E [.ref (E.2.2.2 + 0), vI x1] (Zw E lt b c ms rd m P) (Zw E lt b c ms rd m P) (some (vG E.2.2.2 a)) :=
  ct_of (av := fun E => [.ref (E.2.2.2 + 0), vI x1]) (W0 := fun E => Zw E lt b c ms rd m P) (W1 := fun E (a : Int) => Zw E lt b c ms rd m P) (rw := fun E a => some (vG E.2.2.2 a)) (by decide) rfl (fun E => Zw_d E lt b c ms rd m P) (fun E => by simp [lg_sl, z_cat, z_catR, z_catI, z_catL]) (fun K X => r_lv (by simp [lv_args, z_cat, z_catR, z_catI, z_catL]) (t_X5_graphOf N lt b c ms rd m P x1 K X)) l D E a ha
abbrev Q_X5_under (K : KT) (lt b c ms rd m : Bd) (P : PL) : (Int × Bd × Bd) → State → Prop := Qm K ({ frames := 5, cells := 0, slots := 0, locals := 120 } : Room) (fun a : Int × Bd × Bd => Zw (kE K) a.2.1 b a.2.2 ms rd m P) (fun a => some (vI a.1))
set_option maxRecDepth 100000 in
set_option maxHeartbeats 4000000 in
theorem t_X5_under (N : Nat) (lt b c ms rd m : Bd) (P : PL) (x1 x2 : Int) (K : KT) (X : Kok K cX5_under yX5_under.cls lw_g ({ frames := 5, cells := 0, slots := 0, locals := 120 } : Room) (some .int) 5) : Rn K (Q_X5_under K lt b c ms rd m P) 0 0 (f_X5_under N lt c P x1 x2) 0 [(0, .ref (kB K + 0)), (1, vI x1), (2, vI x2)] [] (Zw (kE K) lt b c ms rd m P) := by
  unfold f_X5_under
  refine r_aload_n (pc := 0) X 0 dX5_under_0 rfl rfl ?_
  refine r_iload_n (pc := 1) X 1 dX5_under_1 rfl rfl ?_
  refine r_callV (pc := 2) (q0 := 0) (ci := 5) (As := [vI x1]) (rest := []) (W' := fun q2_1 => (Zw (kE K) lt b c ms rd m P)) (rv := fun q2_1 => some (vG (kB K) q2_1)) X dX5_under_2 rfl (fun a ha => c_X5_graphOf N lt b c ms rd m P x1 K.1.2.1 K.2.2.1.1 (kE K) a ha) (fun a => Zw_d _ _ _ _ _ _ _ _) gd_X5_92 rfl (n := 1) (by decide) rfl (by decide) rfl rfl rfl (Nat.zero_le _) (fun q2_1 eq2_1 => ?_)
  show Rn K _ 0 0 _ 5 [(0, .ref (kB K + 0)), (1, vI x1), (2, vI x2)] [vG (kB K) q2_1] (Zw (kE K) lt b c ms rd m P)
  refine r_gstore_n (pc := 5) (lv' := [(0, .ref (kB K + 0)), (1, vI x1), (2, vI x2), (3, vG (kB K) q2_1)]) X [1, 2, 3, 0] dX5_under_5 rfl (by decide) rfl ?_
  refine r_aload_n (pc := 6) X 0 dX5_under_6 rfl rfl ?_
  refine r_iload_n (pc := 7) X 2 dX5_under_7 rfl rfl ?_
  refine r_callV (pc := 8) (q0 := 0) (ci := 5) (As := [vI x2]) (rest := []) (W' := fun q8_2 => (Zw (kE K) lt b c ms rd m P)) (rv := fun q8_2 => some (vG (kB K) q8_2)) X dX5_under_8 rfl (fun a ha => c_X5_graphOf N lt b c ms rd m P x2 K.1.2.1 K.2.2.1.1 (kE K) a ha) (fun a => Zw_d _ _ _ _ _ _ _ _) gd_X5_92 rfl (n := 1) (by decide) rfl (by decide) rfl rfl rfl (Nat.zero_le _) (fun q8_2 eq8_2 => ?_)
  show Rn K _ 0 0 _ 11 [(0, .ref (kB K + 0)), (1, vI x1), (2, vI x2), (3, vG (kB K) q2_1)] [vG (kB K) q8_2] (Zw (kE K) lt b c ms rd m P)
  refine r_gstore (pc := 11) (i := 4) (lv' := [(0, .ref (kB K + 0)), (1, vI x1), (2, vI x2), (3, vG (kB K) q2_1), (4, vG (kB K) q8_2)]) X [1, 2, 3, 4, 0] dX5_under_11 (by decide) (by simp [lv_pick, z_cat]) ?_
  refine r_gload_n (pc := 13) X 3 dX5_under_13 rfl rfl ?_
  refine r_jn (J := fun j22 => Rn K (Q_X5_under K lt b c ms rd m P) 0 0 j22 22 [(0, .ref (kB K + 0))] [] (Zw (kE K) lt b c ms rd m P)) ?_ (fun j22 hj22 => ?_)
  · skip
    refine r_aload_n (pc := 22) X 0 dX5_under_22 rfl rfl ?_
    refine r_callV (pc := 23) (q0 := 0) (ci := 5) (As := []) (rest := []) (W' := fun q23_3 => (Zw (kE K) q23_3.2 b c ms rd m P)) (rv := fun q23_3 => some (vI q23_3.1)) X dX5_under_23 rfl (fun a ha => c_X5_refuseBad N lt b c ms rd m P K.1.2.1 K.2.2.1.1 (kE K) a ha) (fun a => Zw_d _ _ _ _ _ _ _ _) gd_X5_53 rfl (n := 0) (by decide) rfl (by decide) rfl rfl rfl (Nat.zero_le _) (fun q23_3 eq23_3 => ?_)
    show Rn K _ 0 0 _ 26 [(0, .ref (kB K + 0))] [vI q23_3.1] (Zw (kE K) q23_3.2 b c ms rd m P)
    exact r_iret (pc := 26) X rfl rfl (by decide) dX5_under_26
  refine r_ifnull (pc := 14) X dX5_under_14 (tgt := 22) (by decide) (fun h4 => ?_) (fun h4 => ?_)
  · refine r_sub [0] rfl ?_
    exact hj22
  · refine r_gload (pc := 17) X 4 dX5_under_17 rfl ?_
    refine r_ifnonnull (pc := 19) X dX5_under_19 (tgt := 27) (by decide) (fun h5 => ?_) (fun h5 => ?_)
    · refine r_sub [0] rfl ?_
      exact hj22
    · refine r_aload_n (pc := 27) X 0 dX5_under_27 rfl rfl ?_
      refine r_get (pc := 28) (v := .ref (kB K + 15)) X 0 12 inX5 rfl rfl (by decide) tf_X5_35 rfl dX5_under_28 ?_
      refine r_gload_n (pc := 31) X 3 dX5_under_31 rfl rfl ?_
      refine r_gload (pc := 32) X 4 dX5_under_32 rfl ?_
      refine r_aload_n (pc := 34) X 0 dX5_under_34 rfl rfl ?_
      refine r_get (pc := 35) (v := vI (lt 2 0)) X 0 2 inX5 rfl rfl (by decide) tf_X5_89 rfl dX5_under_35 ?_
      refine r_callV (pc := 38) (q0 := 15) (ci := 1) (As := [vG (kB K) q2_1, vG (kB K) q8_2, vI (lt 2 0)]) (rest := []) (W' := fun q38_6 => (Zw (kE K) lt b q38_6.2 ms rd m P)) (rv := fun q38_6 => some (vI q38_6.1)) X dX5_under_38 rfl (fun a ha => c_X1_firstFailing N lt b c ms rd m P q2_1 q8_2 (lt 2 0) K.1.2.1 K.2.2.1.1 (kE K) a ha) (fun a => Zw_d _ _ _ _ _ _ _ _) gd_X5_95 rfl (n := 3) (by decide) rfl (by decide) rfl rfl rfl (Nat.zero_le _) (fun q38_6 eq38_6 => ?_)
      show Rn K _ 0 0 _ 41 [(0, .ref (kB K + 0)), (1, vI x1), (2, vI x2), (3, vG (kB K) q2_1), (4, vG (kB K) q8_2)] [vI q38_6.1] (Zw (kE K) lt b q38_6.2 ms rd m P)
      refine r_iconst (pc := 41) X (-1) dX5_under_41 (by decide) ?_
      refine r_ck1 (fun h7 => ?_)
      refine r_jn (J := fun j50 => ∀ (s_50 : Int), Rn K (Q_X5_under K lt b c ms rd m P) 0 0 (j50 s_50) 50 [(0, .ref (kB K + 0)), (1, vI x1), (2, vI x2), (3, vG (kB K) q2_1), (4, vG (kB K) q8_2)] [vI s_50] (Zw (kE K) lt b q38_6.2 ms rd m P)) ?_ (fun j50 hj50 => ?_)
      · intro s_50
        exact r_iret (pc := 50) X rfl rfl (by decide) dX5_under_50
      refine r_eq (z_ite j50) ?_
      refine r_icmp_ne (pc := 42) X h7 (by decide) dX5_under_42 (tgt := 49) (by decide) (fun h8 => ?_) (fun h8 => ?_)
      · refine r_iconst (pc := 49) X 0 dX5_under_49 (by decide) ?_
        exact hj50 0
      · refine r_iconst (pc := 45) X 1 dX5_under_45 (by decide) ?_
        refine r_goto (pc := 46) X dX5_under_46 (tgt := 50) (by decide) ?_
        exact hj50 1
theorem c_X5_under (N : Nat) (lt b c ms rd m : Bd) (P : PL) (x1 x2 : Int) (l : Launch) (D : va_G) (E : ET) (a : Int × Bd × Bd) (ha : f_X5_under N lt c P x1 x2 = some a) : Ct l yX5_under (Cond.code yX5_under cX5_under 5 (some .int) :: lw_g) ({ frames := 5, cells := 0, slots := 0, locals := 120 } : Room) D E [.ref (E.2.2.2 + 0), vI x1, vI x2] (Zw E lt b c ms rd m P) (Zw E a.2.1 b a.2.2 ms rd m P) (some (vI a.1)) :=
  ct_of (av := fun E => [.ref (E.2.2.2 + 0), vI x1, vI x2]) (W0 := fun E => Zw E lt b c ms rd m P) (W1 := fun E (a : Int × Bd × Bd) => Zw E a.2.1 b a.2.2 ms rd m P) (rw := fun E a => some (vI a.1)) (by decide) rfl (fun E => Zw_d E lt b c ms rd m P) (fun E => by simp [lg_sl, z_cat, z_catR, z_catI, z_catL]) (fun K X => r_lv (by simp [lv_args, z_cat, z_catR, z_catI, z_catL]) (t_X5_under N lt b c ms rd m P x1 x2 K X)) l D E a ha
abbrev Q_X5_alike (K : KT) (lt b c ms rd m : Bd) (P : PL) : (Int × Bd) → State → Prop := Qm K ({ frames := 3, cells := 0, slots := 0, locals := 65 } : Room) (fun a : Int × Bd => Zw (kE K) a.2 b c ms rd m P) (fun a => some (vI a.1))
set_option maxRecDepth 100000 in
set_option maxHeartbeats 4000000 in
theorem t_X5_alike (N : Nat) (lt b c ms rd m : Bd) (P : PL) (x1 x2 : Int) (K : KT) (X : Kok K cX5_alike yX5_alike.cls lw_g ({ frames := 3, cells := 0, slots := 0, locals := 65 } : Room) (some .int) 5) : Rn K (Q_X5_alike K lt b c ms rd m P) 0 0 (f_X5_alike N lt P x1 x2) 0 [(0, .ref (kB K + 0)), (1, vI x1), (2, vI x2)] [] (Zw (kE K) lt b c ms rd m P) := by
  unfold f_X5_alike
  refine r_aload_n (pc := 0) X 0 dX5_alike_0 rfl rfl ?_
  refine r_iload_n (pc := 1) X 1 dX5_alike_1 rfl rfl ?_
  refine r_callV (pc := 2) (q0 := 0) (ci := 5) (As := [vI x1]) (rest := []) (W' := fun q2_1 => (Zw (kE K) lt b c ms rd m P)) (rv := fun q2_1 => some (vG (kB K) q2_1)) X dX5_alike_2 rfl (fun a ha => c_X5_graphOf N lt b c ms rd m P x1 K.1.2.1 K.2.2.1.1 (kE K) a ha) (fun a => Zw_d _ _ _ _ _ _ _ _) gd_X5_92 rfl (n := 1) (by decide) rfl (by decide) rfl rfl rfl (Nat.zero_le _) (fun q2_1 eq2_1 => ?_)
  show Rn K _ 0 0 _ 5 [(0, .ref (kB K + 0)), (1, vI x1), (2, vI x2)] [vG (kB K) q2_1] (Zw (kE K) lt b c ms rd m P)
  refine r_gstore_n (pc := 5) (lv' := [(0, .ref (kB K + 0)), (1, vI x1), (2, vI x2), (3, vG (kB K) q2_1)]) X [1, 2, 3, 0] dX5_alike_5 rfl (by decide) rfl ?_
  refine r_aload_n (pc := 6) X 0 dX5_alike_6 rfl rfl ?_
  refine r_iload_n (pc := 7) X 2 dX5_alike_7 rfl rfl ?_
  refine r_callV (pc := 8) (q0 := 0) (ci := 5) (As := [vI x2]) (rest := []) (W' := fun q8_2 => (Zw (kE K) lt b c ms rd m P)) (rv := fun q8_2 => some (vG (kB K) q8_2)) X dX5_alike_8 rfl (fun a ha => c_X5_graphOf N lt b c ms rd m P x2 K.1.2.1 K.2.2.1.1 (kE K) a ha) (fun a => Zw_d _ _ _ _ _ _ _ _) gd_X5_92 rfl (n := 1) (by decide) rfl (by decide) rfl rfl rfl (Nat.zero_le _) (fun q8_2 eq8_2 => ?_)
  show Rn K _ 0 0 _ 11 [(0, .ref (kB K + 0)), (1, vI x1), (2, vI x2), (3, vG (kB K) q2_1)] [vG (kB K) q8_2] (Zw (kE K) lt b c ms rd m P)
  refine r_gstore (pc := 11) (i := 4) (lv' := [(0, .ref (kB K + 0)), (1, vI x1), (2, vI x2), (3, vG (kB K) q2_1), (4, vG (kB K) q8_2)]) X [1, 2, 3, 4, 0] dX5_alike_11 (by decide) (by simp [lv_pick, z_cat]) ?_
  refine r_gload_n (pc := 13) X 3 dX5_alike_13 rfl rfl ?_
  refine r_jn (J := fun j22 => Rn K (Q_X5_alike K lt b c ms rd m P) 0 0 j22 22 [(0, .ref (kB K + 0))] [] (Zw (kE K) lt b c ms rd m P)) ?_ (fun j22 hj22 => ?_)
  · skip
    refine r_aload_n (pc := 22) X 0 dX5_alike_22 rfl rfl ?_
    refine r_callV (pc := 23) (q0 := 0) (ci := 5) (As := []) (rest := []) (W' := fun q23_3 => (Zw (kE K) q23_3.2 b c ms rd m P)) (rv := fun q23_3 => some (vI q23_3.1)) X dX5_alike_23 rfl (fun a ha => c_X5_refuseBad N lt b c ms rd m P K.1.2.1 K.2.2.1.1 (kE K) a ha) (fun a => Zw_d _ _ _ _ _ _ _ _) gd_X5_53 rfl (n := 0) (by decide) rfl (by decide) rfl rfl rfl (Nat.zero_le _) (fun q23_3 eq23_3 => ?_)
    show Rn K _ 0 0 _ 26 [(0, .ref (kB K + 0))] [vI q23_3.1] (Zw (kE K) q23_3.2 b c ms rd m P)
    exact r_iret (pc := 26) X rfl rfl (by decide) dX5_alike_26
  refine r_ifnull (pc := 14) X dX5_alike_14 (tgt := 22) (by decide) (fun h4 => ?_) (fun h4 => ?_)
  · refine r_sub [0] rfl ?_
    exact hj22
  · refine r_gload (pc := 17) X 4 dX5_alike_17 rfl ?_
    refine r_ifnonnull (pc := 19) X dX5_alike_19 (tgt := 27) (by decide) (fun h5 => ?_) (fun h5 => ?_)
    · refine r_sub [0] rfl ?_
      exact hj22
    · refine r_gload_n (pc := 27) X 3 dX5_alike_27 rfl rfl ?_
      refine r_gload (pc := 28) X 4 dX5_alike_28 rfl ?_
      refine r_ckG (fun h6 => ?_)
      refine r_rf1 h6.1 ?_
      refine r_callV (pc := 30) (q0 := (62 + 2 * (q2_1).toNat)) (ci := 2) (As := [vG (kB K) q8_2]) (rest := []) (W' := fun q30_7 => (Zw (kE K) lt b c ms rd m P)) (rv := fun q30_7 => some (vI q30_7)) X dX5_alike_30 rfl (fun a ha => c_X2_sameAs N lt b c ms rd m P q2_1 h6 q8_2 K.1.2.1 K.2.2.1.1 (kE K) a ha) (fun a => Zw_d _ _ _ _ _ _ _ _) gd_X5_99 rfl (n := 1) (by decide) rfl (by decide) rfl rfl (zg_gobj h6) (Nat.zero_le _) (fun q30_7 eq30_7 => ?_)
      show Rn K _ 0 0 _ 33 [(0, .ref (kB K + 0)), (1, vI x1), (2, vI x2), (3, vG (kB K) q2_1), (4, vG (kB K) q8_2)] [vI q30_7] (Zw (kE K) lt b c ms rd m P)
      refine r_ck1 (fun h8 => ?_)
      refine r_jn (J := fun j41 => ∀ (s_41 : Int), Rn K (Q_X5_alike K lt b c ms rd m P) 0 0 (j41 s_41) 41 [(0, .ref (kB K + 0)), (1, vI x1), (2, vI x2), (3, vG (kB K) q2_1), (4, vG (kB K) q8_2)] [vI s_41] (Zw (kE K) lt b c ms rd m P)) ?_ (fun j41 hj41 => ?_)
      · intro s_41
        exact r_iret (pc := 41) X rfl rfl (by decide) dX5_alike_41
      refine r_eq (z_ite j41) ?_
      refine r_ifeq (pc := 33) X h8 dX5_alike_33 (tgt := 40) (by decide) (fun h9 => ?_) (fun h9 => ?_)
      · refine r_iconst (pc := 40) X 0 dX5_alike_40 (by decide) ?_
        exact hj41 0
      · refine r_iconst (pc := 36) X 1 dX5_alike_36 (by decide) ?_
        refine r_goto (pc := 37) X dX5_alike_37 (tgt := 41) (by decide) ?_
        exact hj41 1
theorem c_X5_alike (N : Nat) (lt b c ms rd m : Bd) (P : PL) (x1 x2 : Int) (l : Launch) (D : va_G) (E : ET) (a : Int × Bd) (ha : f_X5_alike N lt P x1 x2 = some a) : Ct l yX5_alike (Cond.code yX5_alike cX5_alike 5 (some .int) :: lw_g) ({ frames := 3, cells := 0, slots := 0, locals := 65 } : Room) D E [.ref (E.2.2.2 + 0), vI x1, vI x2] (Zw E lt b c ms rd m P) (Zw E a.2 b c ms rd m P) (some (vI a.1)) :=
  ct_of (av := fun E => [.ref (E.2.2.2 + 0), vI x1, vI x2]) (W0 := fun E => Zw E lt b c ms rd m P) (W1 := fun E (a : Int × Bd) => Zw E a.2 b c ms rd m P) (rw := fun E a => some (vI a.1)) (by decide) rfl (fun E => Zw_d E lt b c ms rd m P) (fun E => by simp [lg_sl, z_cat, z_catR, z_catI, z_catL]) (fun K X => r_lv (by simp [lv_args, z_cat, z_catR, z_catI, z_catL]) (t_X5_alike N lt b c ms rd m P x1 x2 K X)) l D E a ha
abbrev Q_X5_apart (K : KT) (lt b c ms rd m : Bd) (P : PL) : (Int × Bd × Bd) → State → Prop := Qm K ({ frames := 5, cells := 0, slots := 0, locals := 120 } : Room) (fun a : Int × Bd × Bd => Zw (kE K) a.2.1 b a.2.2 ms rd m P) (fun a => some (vI a.1))
set_option maxRecDepth 100000 in
set_option maxHeartbeats 4000000 in
theorem t_X5_apart (N : Nat) (lt b c ms rd m : Bd) (P : PL) (x1 x2 x3 : Int) (K : KT) (X : Kok K cX5_apart yX5_apart.cls lw_g ({ frames := 5, cells := 0, slots := 0, locals := 120 } : Room) (some .int) 8) : Rn K (Q_X5_apart K lt b c ms rd m P) 0 0 (f_X5_apart N lt c P x1 x2 x3) 0 [(0, .ref (kB K + 0)), (1, vI x1), (2, vI x2), (3, vI x3)] [] (Zw (kE K) lt b c ms rd m P) := by
  unfold f_X5_apart
  refine r_aload_n (pc := 0) X 0 dX5_apart_0 rfl rfl ?_
  refine r_iload_n (pc := 1) X 1 dX5_apart_1 rfl rfl ?_
  refine r_callV (pc := 2) (q0 := 0) (ci := 5) (As := [vI x1]) (rest := []) (W' := fun q2_1 => (Zw (kE K) lt b c ms rd m P)) (rv := fun q2_1 => some (vG (kB K) q2_1)) X dX5_apart_2 rfl (fun a ha => c_X5_graphOf N lt b c ms rd m P x1 K.1.2.1 K.2.2.1.1 (kE K) a ha) (fun a => Zw_d _ _ _ _ _ _ _ _) gd_X5_92 rfl (n := 1) (by decide) rfl (by decide) rfl rfl rfl (Nat.zero_le _) (fun q2_1 eq2_1 => ?_)
  show Rn K _ 0 0 _ 5 [(0, .ref (kB K + 0)), (1, vI x1), (2, vI x2), (3, vI x3)] [vG (kB K) q2_1] (Zw (kE K) lt b c ms rd m P)
  refine r_gstore (pc := 5) (lv' := [(0, .ref (kB K + 0)), (1, vI x1), (2, vI x2), (3, vI x3), (4, vG (kB K) q2_1)]) X [1, 2, 3, 4, 0] dX5_apart_5 (by decide) rfl ?_
  refine r_aload_n (pc := 7) X 0 dX5_apart_7 rfl rfl ?_
  refine r_iload_n (pc := 8) X 2 dX5_apart_8 rfl rfl ?_
  refine r_callV (pc := 9) (q0 := 0) (ci := 5) (As := [vI x2]) (rest := []) (W' := fun q9_2 => (Zw (kE K) lt b c ms rd m P)) (rv := fun q9_2 => some (vG (kB K) q9_2)) X dX5_apart_9 rfl (fun a ha => c_X5_graphOf N lt b c ms rd m P x2 K.1.2.1 K.2.2.1.1 (kE K) a ha) (fun a => Zw_d _ _ _ _ _ _ _ _) gd_X5_92 rfl (n := 1) (by decide) rfl (by decide) rfl rfl rfl (Nat.zero_le _) (fun q9_2 eq9_2 => ?_)
  show Rn K _ 0 0 _ 12 [(0, .ref (kB K + 0)), (1, vI x1), (2, vI x2), (3, vI x3), (4, vG (kB K) q2_1)] [vG (kB K) q9_2] (Zw (kE K) lt b c ms rd m P)
  refine r_gstore (pc := 12) (i := 5) (lv' := [(0, .ref (kB K + 0)), (1, vI x1), (2, vI x2), (3, vI x3), (4, vG (kB K) q2_1), (5, vG (kB K) q9_2)]) X [1, 2, 3, 4, 5, 0] dX5_apart_12 (by decide) (by simp [lv_pick, z_cat]) ?_
  refine r_gload (pc := 14) X 4 dX5_apart_14 rfl ?_
  refine r_jn (J := fun j29 => Rn K (Q_X5_apart K lt b c ms rd m P) 0 0 j29 29 [(0, .ref (kB K + 0))] [] (Zw (kE K) lt b c ms rd m P)) ?_ (fun j29 hj29 => ?_)
  · skip
    refine r_aload_n (pc := 29) X 0 dX5_apart_29 rfl rfl ?_
    refine r_callV (pc := 30) (q0 := 0) (ci := 5) (As := []) (rest := []) (W' := fun q30_3 => (Zw (kE K) q30_3.2 b c ms rd m P)) (rv := fun q30_3 => some (vI q30_3.1)) X dX5_apart_30 rfl (fun a ha => c_X5_refuseBad N lt b c ms rd m P K.1.2.1 K.2.2.1.1 (kE K) a ha) (fun a => Zw_d _ _ _ _ _ _ _ _) gd_X5_53 rfl (n := 0) (by decide) rfl (by decide) rfl rfl rfl (Nat.zero_le _) (fun q30_3 eq30_3 => ?_)
    show Rn K _ 0 0 _ 33 [(0, .ref (kB K + 0))] [vI q30_3.1] (Zw (kE K) q30_3.2 b c ms rd m P)
    refine r_pop (pc := 33) X dX5_apart_33 rfl ?_
    refine r_bipush (pc := 34) X (-10) dX5_apart_34 (by decide) ?_
    exact r_iret (pc := 36) X rfl rfl (by decide) dX5_apart_36
  refine r_ifnull (pc := 16) X dX5_apart_16 (tgt := 29) (by decide) (fun h4 => ?_) (fun h4 => ?_)
  · refine r_sub [0] rfl ?_
    exact hj29
  · refine r_gload (pc := 19) X 5 dX5_apart_19 rfl ?_
    refine r_ifnull (pc := 21) X dX5_apart_21 (tgt := 29) (by decide) (fun h5 => ?_) (fun h5 => ?_)
    · refine r_sub [0] rfl ?_
      exact hj29
    · refine r_iload_n (pc := 24) X 3 dX5_apart_24 rfl rfl ?_
      refine r_iconst (pc := 25) X (-1) dX5_apart_25 (by decide) ?_
      refine r_ck1 (fun h6 => ?_)
      refine r_icmp_ge (pc := 26) X h6 (by decide) dX5_apart_26 (tgt := 37) (by decide) (fun h7 => ?_) (fun h7 => ?_)
      · refine r_aload_n (pc := 37) X 0 dX5_apart_37 rfl rfl ?_
        refine r_get (pc := 38) (v := .ref (kB K + 15)) X 0 12 inX5 rfl rfl (by decide) tf_X5_35 rfl dX5_apart_38 ?_
        refine r_gload (pc := 41) X 4 dX5_apart_41 rfl ?_
        refine r_gload (pc := 43) X 5 dX5_apart_43 rfl ?_
        refine r_aload_n (pc := 45) X 0 dX5_apart_45 rfl rfl ?_
        refine r_get (pc := 46) (v := vI (lt 2 0)) X 0 2 inX5 rfl rfl (by decide) tf_X5_89 rfl dX5_apart_46 ?_
        refine r_callV (pc := 49) (q0 := 15) (ci := 1) (As := [vG (kB K) q2_1, vG (kB K) q9_2, vI (lt 2 0)]) (rest := []) (W' := fun q49_8 => (Zw (kE K) lt b q49_8.2 ms rd m P)) (rv := fun q49_8 => some (vI q49_8.1)) X dX5_apart_49 rfl (fun a ha => c_X1_firstFailing N lt b c ms rd m P q2_1 q9_2 (lt 2 0) K.1.2.1 K.2.2.1.1 (kE K) a ha) (fun a => Zw_d _ _ _ _ _ _ _ _) gd_X5_95 rfl (n := 3) (by decide) rfl (by decide) rfl rfl rfl (Nat.zero_le _) (fun q49_8 eq49_8 => ?_)
        show Rn K _ 0 0 _ 52 [(0, .ref (kB K + 0)), (1, vI x1), (2, vI x2), (3, vI x3), (4, vG (kB K) q2_1), (5, vG (kB K) q9_2)] [vI q49_8.1] (Zw (kE K) lt b q49_8.2 ms rd m P)
        refine r_istore (pc := 52) (i := 6) (lv' := [(0, .ref (kB K + 0)), (1, vI x1), (2, vI x2), (3, vI x3), (4, vG (kB K) q2_1), (5, vG (kB K) q9_2), (6, vI q49_8.1)]) X [1, 2, 3, 4, 5, 6, 0] dX5_apart_52 (by decide) (by simp [lv_pick, z_cat]) ?_
        refine r_iload (pc := 54) X 6 dX5_apart_54 rfl ?_
        refine r_iconst (pc := 56) X (-1) dX5_apart_56 (by decide) ?_
        refine r_ck1 (fun h9 => ?_)
        refine r_icmp_ne (pc := 57) X h9 (by decide) dX5_apart_57 (tgt := 63) (by decide) (fun h10 => ?_) (fun h10 => ?_)
        · refine r_aload_n (pc := 63) X 0 dX5_apart_63 rfl rfl ?_
          refine r_get (pc := 64) (v := .ref (kB K + 15)) X 0 12 inX5 rfl rfl (by decide) tf_X5_35 rfl dX5_apart_64 ?_
          refine r_iload (pc := 67) X 6 dX5_apart_67 rfl ?_
          refine r_callV (pc := 69) (q0 := 15) (ci := 1) (As := [vI q49_8.1]) (rest := []) (W' := fun q69_11 => (Zw (kE K) lt b q49_8.2 ms rd m P)) (rv := fun q69_11 => some (vI q69_11)) X dX5_apart_69 rfl (fun a ha => c_X1_stepCount N lt b q49_8.2 ms rd m P q49_8.1 K.1.2.1 K.2.2.1.1 (kE K) a ha) (fun a => Zw_d _ _ _ _ _ _ _ _) gd_X5_103 rfl (n := 1) (by decide) rfl (by decide) rfl rfl rfl (Nat.zero_le _) (fun q69_11 eq69_11 => ?_)
          show Rn K _ 0 0 _ 72 [(0, .ref (kB K + 0)), (1, vI x1), (2, vI x2), (3, vI x3), (4, vG (kB K) q2_1), (5, vG (kB K) q9_2), (6, vI q49_8.1)] [vI q69_11] (Zw (kE K) lt b q49_8.2 ms rd m P)
          refine r_istore (pc := 72) (lv' := [(0, .ref (kB K + 0)), (1, vI x1), (2, vI x2), (3, vI x3), (4, vG (kB K) q2_1), (5, vG (kB K) q9_2), (6, vI q49_8.1), (7, vI q69_11)]) X [1, 2, 3, 4, 5, 6, 7, 0] dX5_apart_72 (by decide) rfl ?_
          refine r_iload_n (pc := 74) X 3 dX5_apart_74 rfl rfl ?_
          refine r_iconst (pc := 75) X (-1) dX5_apart_75 (by decide) ?_
          refine r_icmp_ne (pc := 76) X h6 (by decide) dX5_apart_76 (tgt := 82) (by decide) (fun h12 => ?_) (fun h12 => ?_)
          · refine r_iload_n (pc := 82) X 3 dX5_apart_82 rfl rfl ?_
            refine r_iload (pc := 83) X 7 dX5_apart_83 rfl ?_
            refine r_ck1 (fun h13 => ?_)
            refine r_icmp_lt (pc := 85) X h6 h13 dX5_apart_85 (tgt := 93) (by decide) (fun h14 => ?_) (fun h14 => ?_)
            · refine r_aload_n (pc := 93) X 0 dX5_apart_93 rfl rfl ?_
              refine r_get (pc := 94) (v := .ref (kB K + 15)) X 0 12 inX5 rfl rfl (by decide) tf_X5_35 rfl dX5_apart_94 ?_
              refine r_iload (pc := 97) X 6 dX5_apart_97 rfl ?_
              refine r_iload (pc := 99) X 7 dX5_apart_99 rfl ?_
              refine r_iconst (pc := 101) X 1 dX5_apart_101 (by decide) ?_
              refine r_isub (pc := 102) X dX5_apart_102 ?_
              refine r_iload_n (pc := 103) X 3 dX5_apart_103 rfl rfl ?_
              refine r_isub (pc := 104) X dX5_apart_104 ?_
              refine r_callV (pc := 105) (q0 := 15) (ci := 1) (As := [vI q49_8.1, vI ((q69_11 - 1) - x3)]) (rest := []) (W' := fun q105_15 => (Zw (kE K) lt b q49_8.2 ms rd m P)) (rv := fun q105_15 => some (vI q105_15)) X dX5_apart_105 rfl (fun a ha => c_X1_lastStep N lt b q49_8.2 ms rd m P q49_8.1 ((q69_11 - 1) - x3) K.1.2.1 K.2.2.1.1 (kE K) a ha) (fun a => Zw_d _ _ _ _ _ _ _ _) gd_X5_106 rfl (n := 2) (by decide) rfl (by decide) rfl rfl rfl (Nat.zero_le _) (fun q105_15 eq105_15 => ?_)
              show Rn K _ 0 0 _ 108 [(0, .ref (kB K + 0)), (1, vI x1), (2, vI x2), (3, vI x3), (4, vG (kB K) q2_1), (5, vG (kB K) q9_2), (6, vI q49_8.1), (7, vI q69_11)] [vI q105_15] (Zw (kE K) lt b q49_8.2 ms rd m P)
              exact r_iret (pc := 108) X rfl rfl (by decide) dX5_apart_108
            · refine r_bipush (pc := 88) X (-5) dX5_apart_88 (by decide) ?_
              refine r_goto (pc := 90) X dX5_apart_90 (tgt := 108) (by decide) ?_
              exact r_iret (pc := 108) X rfl rfl (by decide) dX5_apart_108
          · refine r_iload (pc := 79) X 7 dX5_apart_79 rfl ?_
            exact r_iret (pc := 81) X rfl rfl (by decide) dX5_apart_81
        · refine r_bipush (pc := 60) X (-6) dX5_apart_60 (by decide) ?_
          exact r_iret (pc := 62) X rfl rfl (by decide) dX5_apart_62
      · refine r_sub [0] rfl ?_
        exact hj29
theorem c_X5_apart (N : Nat) (lt b c ms rd m : Bd) (P : PL) (x1 x2 x3 : Int) (l : Launch) (D : va_G) (E : ET) (a : Int × Bd × Bd) (ha : f_X5_apart N lt c P x1 x2 x3 = some a) : Ct l yX5_apart (Cond.code yX5_apart cX5_apart 8 (some .int) :: lw_g) ({ frames := 5, cells := 0, slots := 0, locals := 120 } : Room) D E [.ref (E.2.2.2 + 0), vI x1, vI x2, vI x3] (Zw E lt b c ms rd m P) (Zw E a.2.1 b a.2.2 ms rd m P) (some (vI a.1)) :=
  ct_of (av := fun E => [.ref (E.2.2.2 + 0), vI x1, vI x2, vI x3]) (W0 := fun E => Zw E lt b c ms rd m P) (W1 := fun E (a : Int × Bd × Bd) => Zw E a.2.1 b a.2.2 ms rd m P) (rw := fun E a => some (vI a.1)) (by decide) rfl (fun E => Zw_d E lt b c ms rd m P) (fun E => by simp [lg_sl, z_cat, z_catR, z_catI, z_catL]) (fun K X => r_lv (by simp [lv_args, z_cat, z_catR, z_catI, z_catL]) (t_X5_apart N lt b c ms rd m P x1 x2 x3 K X)) l D E a ha
abbrev Q_X5_near (K : KT) (lt b c ms rd m : Bd) (P : PL) : (Int × Bd × Bd) → State → Prop := Qm K ({ frames := 5, cells := 0, slots := 0, locals := 118 } : Room) (fun a : Int × Bd × Bd => Zw (kE K) a.2.1 b a.2.2 ms rd m P) (fun a => some (vI a.1))
set_option maxRecDepth 100000 in
set_option maxHeartbeats 4000000 in
theorem t_X5_near (N : Nat) (lt b c ms rd m : Bd) (P : PL) (x1 x2 x3 : Int) (K : KT) (X : Kok K cX5_near yX5_near.cls lw_g ({ frames := 5, cells := 0, slots := 0, locals := 118 } : Room) (some .int) 6) : Rn K (Q_X5_near K lt b c ms rd m P) 0 0 (f_X5_near N lt c P x1 x2 x3) 0 [(0, .ref (kB K + 0)), (1, vI x1), (2, vI x2), (3, vI x3)] [] (Zw (kE K) lt b c ms rd m P) := by
  unfold f_X5_near
  refine r_aload_n (pc := 0) X 0 dX5_near_0 rfl rfl ?_
  refine r_iload_n (pc := 1) X 1 dX5_near_1 rfl rfl ?_
  refine r_callV (pc := 2) (q0 := 0) (ci := 5) (As := [vI x1]) (rest := []) (W' := fun q2_1 => (Zw (kE K) lt b c ms rd m P)) (rv := fun q2_1 => some (vG (kB K) q2_1)) X dX5_near_2 rfl (fun a ha => c_X5_graphOf N lt b c ms rd m P x1 K.1.2.1 K.2.2.1.1 (kE K) a ha) (fun a => Zw_d _ _ _ _ _ _ _ _) gd_X5_92 rfl (n := 1) (by decide) rfl (by decide) rfl rfl rfl (Nat.zero_le _) (fun q2_1 eq2_1 => ?_)
  show Rn K _ 0 0 _ 5 [(0, .ref (kB K + 0)), (1, vI x1), (2, vI x2), (3, vI x3)] [vG (kB K) q2_1] (Zw (kE K) lt b c ms rd m P)
  refine r_gstore (pc := 5) (lv' := [(0, .ref (kB K + 0)), (1, vI x1), (2, vI x2), (3, vI x3), (4, vG (kB K) q2_1)]) X [1, 2, 3, 4, 0] dX5_near_5 (by decide) rfl ?_
  refine r_aload_n (pc := 7) X 0 dX5_near_7 rfl rfl ?_
  refine r_iload_n (pc := 8) X 2 dX5_near_8 rfl rfl ?_
  refine r_callV (pc := 9) (q0 := 0) (ci := 5) (As := [vI x2]) (rest := []) (W' := fun q9_2 => (Zw (kE K) lt b c ms rd m P)) (rv := fun q9_2 => some (vG (kB K) q9_2)) X dX5_near_9 rfl (fun a ha => c_X5_graphOf N lt b c ms rd m P x2 K.1.2.1 K.2.2.1.1 (kE K) a ha) (fun a => Zw_d _ _ _ _ _ _ _ _) gd_X5_92 rfl (n := 1) (by decide) rfl (by decide) rfl rfl rfl (Nat.zero_le _) (fun q9_2 eq9_2 => ?_)
  show Rn K _ 0 0 _ 12 [(0, .ref (kB K + 0)), (1, vI x1), (2, vI x2), (3, vI x3), (4, vG (kB K) q2_1)] [vG (kB K) q9_2] (Zw (kE K) lt b c ms rd m P)
  refine r_gstore (pc := 12) (i := 5) (lv' := [(0, .ref (kB K + 0)), (1, vI x1), (2, vI x2), (3, vI x3), (4, vG (kB K) q2_1), (5, vG (kB K) q9_2)]) X [1, 2, 3, 4, 5, 0] dX5_near_12 (by decide) (by simp [lv_pick, z_cat]) ?_
  refine r_gload (pc := 14) X 4 dX5_near_14 rfl ?_
  refine r_jn (J := fun j34 => Rn K (Q_X5_near K lt b c ms rd m P) 0 0 j34 34 [(0, .ref (kB K + 0))] [] (Zw (kE K) lt b c ms rd m P)) ?_ (fun j34 hj34 => ?_)
  · skip
    refine r_aload_n (pc := 34) X 0 dX5_near_34 rfl rfl ?_
    refine r_callV (pc := 35) (q0 := 0) (ci := 5) (As := []) (rest := []) (W' := fun q35_3 => (Zw (kE K) q35_3.2 b c ms rd m P)) (rv := fun q35_3 => some (vI q35_3.1)) X dX5_near_35 rfl (fun a ha => c_X5_refuseBad N lt b c ms rd m P K.1.2.1 K.2.2.1.1 (kE K) a ha) (fun a => Zw_d _ _ _ _ _ _ _ _) gd_X5_53 rfl (n := 0) (by decide) rfl (by decide) rfl rfl rfl (Nat.zero_le _) (fun q35_3 eq35_3 => ?_)
    show Rn K _ 0 0 _ 38 [(0, .ref (kB K + 0))] [vI q35_3.1] (Zw (kE K) q35_3.2 b c ms rd m P)
    exact r_iret (pc := 38) X rfl rfl (by decide) dX5_near_38
  refine r_ifnull (pc := 16) X dX5_near_16 (tgt := 34) (by decide) (fun h4 => ?_) (fun h4 => ?_)
  · refine r_sub [0] rfl ?_
    exact hj34
  · refine r_gload (pc := 19) X 5 dX5_near_19 rfl ?_
    refine r_ifnull (pc := 21) X dX5_near_21 (tgt := 34) (by decide) (fun h5 => ?_) (fun h5 => ?_)
    · refine r_sub [0] rfl ?_
      exact hj34
    · refine r_iload_n (pc := 24) X 3 dX5_near_24 rfl rfl ?_
      refine r_ck1 (fun h6 => ?_)
      refine r_iflt (pc := 25) X h6 dX5_near_25 (tgt := 34) (by decide) (fun h7 => ?_) (fun h7 => ?_)
      · refine r_sub [0] rfl ?_
        exact hj34
      · refine r_iload_n (pc := 28) X 3 dX5_near_28 rfl rfl ?_
        refine r_bipush (pc := 29) X 60 dX5_near_29 (by decide) ?_
        refine r_icmp_le (pc := 31) X h6 (by decide) dX5_near_31 (tgt := 39) (by decide) (fun h8 => ?_) (fun h8 => ?_)
        · refine r_aload_n (pc := 39) X 0 dX5_near_39 rfl rfl ?_
          refine r_get (pc := 40) (v := .ref (kB K + 15)) X 0 12 inX5 rfl rfl (by decide) tf_X5_35 rfl dX5_near_40 ?_
          refine r_gload (pc := 43) X 4 dX5_near_43 rfl ?_
          refine r_gload (pc := 45) X 5 dX5_near_45 rfl ?_
          refine r_iload_n (pc := 47) X 3 dX5_near_47 rfl rfl ?_
          refine r_callV (pc := 48) (q0 := 15) (ci := 1) (As := [vG (kB K) q2_1, vG (kB K) q9_2, vI x3]) (rest := []) (W' := fun q48_9 => (Zw (kE K) lt b q48_9.2 ms rd m P)) (rv := fun q48_9 => some (vI q48_9.1)) X dX5_near_48 rfl (fun a ha => c_X1_sameDownTo N lt b c ms rd m P q2_1 q9_2 x3 K.1.2.1 K.2.2.1.1 (kE K) a ha) (fun a => Zw_d _ _ _ _ _ _ _ _) gd_X5_110 rfl (n := 3) (by decide) rfl (by decide) rfl rfl rfl (Nat.zero_le _) (fun q48_9 eq48_9 => ?_)
          show Rn K _ 0 0 _ 51 [(0, .ref (kB K + 0)), (1, vI x1), (2, vI x2), (3, vI x3), (4, vG (kB K) q2_1), (5, vG (kB K) q9_2)] [vI q48_9.1] (Zw (kE K) lt b q48_9.2 ms rd m P)
          refine r_ck1 (fun h10 => ?_)
          refine r_jn (J := fun j59 => ∀ (s_59 : Int), Rn K (Q_X5_near K lt b c ms rd m P) 0 0 (j59 s_59) 59 [(0, .ref (kB K + 0)), (1, vI x1), (2, vI x2), (3, vI x3), (4, vG (kB K) q2_1), (5, vG (kB K) q9_2)] [vI s_59] (Zw (kE K) lt b q48_9.2 ms rd m P)) ?_ (fun j59 hj59 => ?_)
          · intro s_59
            exact r_iret (pc := 59) X rfl rfl (by decide) dX5_near_59
          refine r_eq (z_ite j59) ?_
          refine r_ifeq (pc := 51) X h10 dX5_near_51 (tgt := 58) (by decide) (fun h11 => ?_) (fun h11 => ?_)
          · refine r_iconst (pc := 58) X 0 dX5_near_58 (by decide) ?_
            exact hj59 0
          · refine r_iconst (pc := 54) X 1 dX5_near_54 (by decide) ?_
            refine r_goto (pc := 55) X dX5_near_55 (tgt := 59) (by decide) ?_
            exact hj59 1
        · refine r_sub [0] rfl ?_
          exact hj34
theorem c_X5_near (N : Nat) (lt b c ms rd m : Bd) (P : PL) (x1 x2 x3 : Int) (l : Launch) (D : va_G) (E : ET) (a : Int × Bd × Bd) (ha : f_X5_near N lt c P x1 x2 x3 = some a) : Ct l yX5_near (Cond.code yX5_near cX5_near 6 (some .int) :: lw_g) ({ frames := 5, cells := 0, slots := 0, locals := 118 } : Room) D E [.ref (E.2.2.2 + 0), vI x1, vI x2, vI x3] (Zw E lt b c ms rd m P) (Zw E a.2.1 b a.2.2 ms rd m P) (some (vI a.1)) :=
  ct_of (av := fun E => [.ref (E.2.2.2 + 0), vI x1, vI x2, vI x3]) (W0 := fun E => Zw E lt b c ms rd m P) (W1 := fun E (a : Int × Bd × Bd) => Zw E a.2.1 b a.2.2 ms rd m P) (rw := fun E a => some (vI a.1)) (by decide) rfl (fun E => Zw_d E lt b c ms rd m P) (fun E => by simp [lg_sl, z_cat, z_catR, z_catI, z_catL]) (fun K X => r_lv (by simp [lv_args, z_cat, z_catR, z_catI, z_catL]) (t_X5_near N lt b c ms rd m P x1 x2 x3 K X)) l D E a ha
abbrev Q_X5_shared (K : KT) (lt b c ms rd m : Bd) (P : PL) : (Int × Bd × Bd) → State → Prop := Qm K ({ frames := 6, cells := 0, slots := 0, locals := 143 } : Room) (fun a : Int × Bd × Bd => Zw (kE K) a.2.1 b c a.2.2 rd m P) (fun a => some (vI a.1))
set_option maxRecDepth 100000 in
set_option maxHeartbeats 4000000 in
theorem t_X5_shared (N : Nat) (lt b c ms rd m : Bd) (P : PL) (x1 x2 : Int) (K : KT) (X : Kok K cX5_shared yX5_shared.cls lw_g ({ frames := 6, cells := 0, slots := 0, locals := 143 } : Room) (some .int) 5) : Rn K (Q_X5_shared K lt b c ms rd m P) 0 0 (f_X5_shared N lt ms P x1 x2) 0 [(0, .ref (kB K + 0)), (1, vI x1), (2, vI x2)] [] (Zw (kE K) lt b c ms rd m P) := by
  unfold f_X5_shared
  refine r_aload_n (pc := 0) X 0 dX5_shared_0 rfl rfl ?_
  refine r_iload_n (pc := 1) X 1 dX5_shared_1 rfl rfl ?_
  refine r_callV (pc := 2) (q0 := 0) (ci := 5) (As := [vI x1]) (rest := []) (W' := fun q2_1 => (Zw (kE K) lt b c ms rd m P)) (rv := fun q2_1 => some (vG (kB K) q2_1)) X dX5_shared_2 rfl (fun a ha => c_X5_graphOf N lt b c ms rd m P x1 K.1.2.1 K.2.2.1.1 (kE K) a ha) (fun a => Zw_d _ _ _ _ _ _ _ _) gd_X5_92 rfl (n := 1) (by decide) rfl (by decide) rfl rfl rfl (Nat.zero_le _) (fun q2_1 eq2_1 => ?_)
  show Rn K _ 0 0 _ 5 [(0, .ref (kB K + 0)), (1, vI x1), (2, vI x2)] [vG (kB K) q2_1] (Zw (kE K) lt b c ms rd m P)
  refine r_gstore_n (pc := 5) (lv' := [(0, .ref (kB K + 0)), (1, vI x1), (2, vI x2), (3, vG (kB K) q2_1)]) X [1, 2, 3, 0] dX5_shared_5 rfl (by decide) rfl ?_
  refine r_aload_n (pc := 6) X 0 dX5_shared_6 rfl rfl ?_
  refine r_iload_n (pc := 7) X 2 dX5_shared_7 rfl rfl ?_
  refine r_callV (pc := 8) (q0 := 0) (ci := 5) (As := [vI x2]) (rest := []) (W' := fun q8_2 => (Zw (kE K) lt b c ms rd m P)) (rv := fun q8_2 => some (vG (kB K) q8_2)) X dX5_shared_8 rfl (fun a ha => c_X5_graphOf N lt b c ms rd m P x2 K.1.2.1 K.2.2.1.1 (kE K) a ha) (fun a => Zw_d _ _ _ _ _ _ _ _) gd_X5_92 rfl (n := 1) (by decide) rfl (by decide) rfl rfl rfl (Nat.zero_le _) (fun q8_2 eq8_2 => ?_)
  show Rn K _ 0 0 _ 11 [(0, .ref (kB K + 0)), (1, vI x1), (2, vI x2), (3, vG (kB K) q2_1)] [vG (kB K) q8_2] (Zw (kE K) lt b c ms rd m P)
  refine r_gstore (pc := 11) (i := 4) (lv' := [(0, .ref (kB K + 0)), (1, vI x1), (2, vI x2), (3, vG (kB K) q2_1), (4, vG (kB K) q8_2)]) X [1, 2, 3, 4, 0] dX5_shared_11 (by decide) (by simp [lv_pick, z_cat]) ?_
  refine r_gload_n (pc := 13) X 3 dX5_shared_13 rfl rfl ?_
  refine r_jn (J := fun j22 => Rn K (Q_X5_shared K lt b c ms rd m P) 0 0 j22 22 [(0, .ref (kB K + 0))] [] (Zw (kE K) lt b c ms rd m P)) ?_ (fun j22 hj22 => ?_)
  · skip
    refine r_aload_n (pc := 22) X 0 dX5_shared_22 rfl rfl ?_
    refine r_callV (pc := 23) (q0 := 0) (ci := 5) (As := []) (rest := []) (W' := fun q23_3 => (Zw (kE K) q23_3.2 b c ms rd m P)) (rv := fun q23_3 => some (vI q23_3.1)) X dX5_shared_23 rfl (fun a ha => c_X5_refuseBad N lt b c ms rd m P K.1.2.1 K.2.2.1.1 (kE K) a ha) (fun a => Zw_d _ _ _ _ _ _ _ _) gd_X5_53 rfl (n := 0) (by decide) rfl (by decide) rfl rfl rfl (Nat.zero_le _) (fun q23_3 eq23_3 => ?_)
    show Rn K _ 0 0 _ 26 [(0, .ref (kB K + 0))] [vI q23_3.1] (Zw (kE K) q23_3.2 b c ms rd m P)
    exact r_iret (pc := 26) X rfl rfl (by decide) dX5_shared_26
  refine r_ifnull (pc := 14) X dX5_shared_14 (tgt := 22) (by decide) (fun h4 => ?_) (fun h4 => ?_)
  · refine r_sub [0] rfl ?_
    exact hj22
  · refine r_gload (pc := 17) X 4 dX5_shared_17 rfl ?_
    refine r_ifnonnull (pc := 19) X dX5_shared_19 (tgt := 27) (by decide) (fun h5 => ?_) (fun h5 => ?_)
    · refine r_sub [0] rfl ?_
      exact hj22
    · refine r_aload_n (pc := 27) X 0 dX5_shared_27 rfl rfl ?_
      refine r_get (pc := 28) (v := .ref (kB K + 19)) X 0 13 inX5 rfl rfl (by decide) tf_X5_42 rfl dX5_shared_28 ?_
      refine r_gload_n (pc := 31) X 3 dX5_shared_31 rfl rfl ?_
      refine r_gload (pc := 32) X 4 dX5_shared_32 rfl ?_
      refine r_callV (pc := 34) (q0 := 19) (ci := 3) (As := [vG (kB K) q2_1, vG (kB K) q8_2]) (rest := []) (W' := fun q34_6 => (Zw (kE K) lt b c q34_6.2 rd m P)) (rv := fun q34_6 => some (vI q34_6.1)) X dX5_shared_34 rfl (fun a ha => c_X3_commonCount N lt b c ms rd m P q2_1 q8_2 K.1.2.1 K.2.2.1.1 (kE K) a ha) (fun a => Zw_d _ _ _ _ _ _ _ _) gd_X5_114 rfl (n := 2) (by decide) rfl (by decide) rfl rfl rfl (Nat.zero_le _) (fun q34_6 eq34_6 => ?_)
      show Rn K _ 0 0 _ 37 [(0, .ref (kB K + 0)), (1, vI x1), (2, vI x2), (3, vG (kB K) q2_1), (4, vG (kB K) q8_2)] [vI q34_6.1] (Zw (kE K) lt b c q34_6.2 rd m P)
      exact r_iret (pc := 37) X rfl rfl (by decide) dX5_shared_37
theorem c_X5_shared (N : Nat) (lt b c ms rd m : Bd) (P : PL) (x1 x2 : Int) (l : Launch) (D : va_G) (E : ET) (a : Int × Bd × Bd) (ha : f_X5_shared N lt ms P x1 x2 = some a) : Ct l yX5_shared (Cond.code yX5_shared cX5_shared 5 (some .int) :: lw_g) ({ frames := 6, cells := 0, slots := 0, locals := 143 } : Room) D E [.ref (E.2.2.2 + 0), vI x1, vI x2] (Zw E lt b c ms rd m P) (Zw E a.2.1 b c a.2.2 rd m P) (some (vI a.1)) :=
  ct_of (av := fun E => [.ref (E.2.2.2 + 0), vI x1, vI x2]) (W0 := fun E => Zw E lt b c ms rd m P) (W1 := fun E (a : Int × Bd × Bd) => Zw E a.2.1 b c a.2.2 rd m P) (rw := fun E a => some (vI a.1)) (by decide) rfl (fun E => Zw_d E lt b c ms rd m P) (fun E => by simp [lg_sl, z_cat, z_catR, z_catI, z_catL]) (fun K X => r_lv (by simp [lv_args, z_cat, z_catR, z_catI, z_catL]) (t_X5_shared N lt b c ms rd m P x1 x2 K X)) l D E a ha
abbrev Q_X5_way (K : KT) (lt b c ms rd m : Bd) (P : PL) : (Int × Bd × Bd) → State → Prop := Qm K ({ frames := 5, cells := 0, slots := 0, locals := 118 } : Room) (fun a : Int × Bd × Bd => Zw (kE K) a.2.1 b c a.2.2 rd m P) (fun a => some (vI a.1))
set_option maxRecDepth 100000 in
set_option maxHeartbeats 4000000 in
theorem t_X5_way (N : Nat) (lt b c ms rd m : Bd) (P : PL) (x1 x2 : Int) (K : KT) (X : Kok K cX5_way yX5_way.cls lw_g ({ frames := 5, cells := 0, slots := 0, locals := 118 } : Room) (some .int) 5) : Rn K (Q_X5_way K lt b c ms rd m P) 0 0 (f_X5_way N lt ms P x1 x2) 0 [(0, .ref (kB K + 0)), (1, vI x1), (2, vI x2)] [] (Zw (kE K) lt b c ms rd m P) := by
  unfold f_X5_way
  refine r_aload_n (pc := 0) X 0 dX5_way_0 rfl rfl ?_
  refine r_iload_n (pc := 1) X 1 dX5_way_1 rfl rfl ?_
  refine r_callV (pc := 2) (q0 := 0) (ci := 5) (As := [vI x1]) (rest := []) (W' := fun q2_1 => (Zw (kE K) lt b c ms rd m P)) (rv := fun q2_1 => some (vG (kB K) q2_1)) X dX5_way_2 rfl (fun a ha => c_X5_graphOf N lt b c ms rd m P x1 K.1.2.1 K.2.2.1.1 (kE K) a ha) (fun a => Zw_d _ _ _ _ _ _ _ _) gd_X5_92 rfl (n := 1) (by decide) rfl (by decide) rfl rfl rfl (Nat.zero_le _) (fun q2_1 eq2_1 => ?_)
  show Rn K _ 0 0 _ 5 [(0, .ref (kB K + 0)), (1, vI x1), (2, vI x2)] [vG (kB K) q2_1] (Zw (kE K) lt b c ms rd m P)
  refine r_gstore_n (pc := 5) (lv' := [(0, .ref (kB K + 0)), (1, vI x1), (2, vI x2), (3, vG (kB K) q2_1)]) X [1, 2, 3, 0] dX5_way_5 rfl (by decide) rfl ?_
  refine r_aload_n (pc := 6) X 0 dX5_way_6 rfl rfl ?_
  refine r_iload_n (pc := 7) X 2 dX5_way_7 rfl rfl ?_
  refine r_callV (pc := 8) (q0 := 0) (ci := 5) (As := [vI x2]) (rest := []) (W' := fun q8_2 => (Zw (kE K) lt b c ms rd m P)) (rv := fun q8_2 => some (vG (kB K) q8_2)) X dX5_way_8 rfl (fun a ha => c_X5_graphOf N lt b c ms rd m P x2 K.1.2.1 K.2.2.1.1 (kE K) a ha) (fun a => Zw_d _ _ _ _ _ _ _ _) gd_X5_92 rfl (n := 1) (by decide) rfl (by decide) rfl rfl rfl (Nat.zero_le _) (fun q8_2 eq8_2 => ?_)
  show Rn K _ 0 0 _ 11 [(0, .ref (kB K + 0)), (1, vI x1), (2, vI x2), (3, vG (kB K) q2_1)] [vG (kB K) q8_2] (Zw (kE K) lt b c ms rd m P)
  refine r_gstore (pc := 11) (i := 4) (lv' := [(0, .ref (kB K + 0)), (1, vI x1), (2, vI x2), (3, vG (kB K) q2_1), (4, vG (kB K) q8_2)]) X [1, 2, 3, 4, 0] dX5_way_11 (by decide) (by simp [lv_pick, z_cat]) ?_
  refine r_gload_n (pc := 13) X 3 dX5_way_13 rfl rfl ?_
  refine r_jn (J := fun j22 => Rn K (Q_X5_way K lt b c ms rd m P) 0 0 j22 22 [(0, .ref (kB K + 0))] [] (Zw (kE K) lt b c ms rd m P)) ?_ (fun j22 hj22 => ?_)
  · skip
    refine r_aload_n (pc := 22) X 0 dX5_way_22 rfl rfl ?_
    refine r_callV (pc := 23) (q0 := 0) (ci := 5) (As := []) (rest := []) (W' := fun q23_3 => (Zw (kE K) q23_3.2 b c ms rd m P)) (rv := fun q23_3 => some (vI q23_3.1)) X dX5_way_23 rfl (fun a ha => c_X5_refuseBad N lt b c ms rd m P K.1.2.1 K.2.2.1.1 (kE K) a ha) (fun a => Zw_d _ _ _ _ _ _ _ _) gd_X5_53 rfl (n := 0) (by decide) rfl (by decide) rfl rfl rfl (Nat.zero_le _) (fun q23_3 eq23_3 => ?_)
    show Rn K _ 0 0 _ 26 [(0, .ref (kB K + 0))] [vI q23_3.1] (Zw (kE K) q23_3.2 b c ms rd m P)
    exact r_iret (pc := 26) X rfl rfl (by decide) dX5_way_26
  refine r_ifnull (pc := 14) X dX5_way_14 (tgt := 22) (by decide) (fun h4 => ?_) (fun h4 => ?_)
  · refine r_sub [0] rfl ?_
    exact hj22
  · refine r_gload (pc := 17) X 4 dX5_way_17 rfl ?_
    refine r_ifnonnull (pc := 19) X dX5_way_19 (tgt := 27) (by decide) (fun h5 => ?_) (fun h5 => ?_)
    · refine r_sub [0] rfl ?_
      exact hj22
    · refine r_aload_n (pc := 27) X 0 dX5_way_27 rfl rfl ?_
      refine r_get (pc := 28) (v := .ref (kB K + 19)) X 0 13 inX5 rfl rfl (by decide) tf_X5_42 rfl dX5_way_28 ?_
      refine r_gload_n (pc := 31) X 3 dX5_way_31 rfl rfl ?_
      refine r_aload_n (pc := 32) X 0 dX5_way_32 rfl rfl ?_
      refine r_get (pc := 33) (v := .ref (kB K + 19)) X 0 13 inX5 rfl rfl (by decide) tf_X5_42 rfl dX5_way_33 ?_
      refine r_gload_n (pc := 36) X 3 dX5_way_36 rfl rfl ?_
      refine r_gload (pc := 37) X 4 dX5_way_37 rfl ?_
      refine r_callV (pc := 39) (q0 := 19) (ci := 3) (As := [vG (kB K) q2_1, vG (kB K) q8_2]) (rest := [vG (kB K) q2_1, .ref (kB K + 19)]) (W' := fun q39_6 => (Zw (kE K) lt b c q39_6.2 rd m P)) (rv := fun q39_6 => some (vI q39_6.1)) X dX5_way_39 rfl (fun a ha => c_X3_placeOf N lt b c ms rd m P q2_1 q8_2 K.1.2.1 K.2.2.1.1 (kE K) a ha) (fun a => Zw_d _ _ _ _ _ _ _ _) gd_X5_118 rfl (n := 2) (by decide) rfl (by decide) rfl rfl rfl (by simp [z_cat, z_catR, z_catI, z_catL]) (fun q39_6 eq39_6 => ?_)
      show Rn K _ 0 0 _ 42 [(0, .ref (kB K + 0)), (1, vI x1), (2, vI x2), (3, vG (kB K) q2_1), (4, vG (kB K) q8_2)] [vI q39_6.1, vG (kB K) q2_1, .ref (kB K + 19)] (Zw (kE K) lt b c q39_6.2 rd m P)
      refine r_callV (pc := 42) (q0 := 19) (ci := 3) (As := [vG (kB K) q2_1, vI q39_6.1]) (rest := []) (W' := fun q42_7 => (Zw (kE K) lt b c q42_7.2 rd m P)) (rv := fun q42_7 => some (vI q42_7.1)) X dX5_way_42 rfl (fun a ha => c_X3_stepsTo N lt b c q39_6.2 rd m P q2_1 q39_6.1 K.1.2.1 K.2.2.1.1 (kE K) a ha) (fun a => Zw_d _ _ _ _ _ _ _ _) gd_X5_121 rfl (n := 2) (by decide) rfl (by decide) rfl rfl rfl (Nat.zero_le _) (fun q42_7 eq42_7 => ?_)
      show Rn K _ 0 0 _ 45 [(0, .ref (kB K + 0)), (1, vI x1), (2, vI x2), (3, vG (kB K) q2_1), (4, vG (kB K) q8_2)] [vI q42_7.1] (Zw (kE K) lt b c q42_7.2 rd m P)
      exact r_iret (pc := 45) X rfl rfl (by decide) dX5_way_45
theorem c_X5_way (N : Nat) (lt b c ms rd m : Bd) (P : PL) (x1 x2 : Int) (l : Launch) (D : va_G) (E : ET) (a : Int × Bd × Bd) (ha : f_X5_way N lt ms P x1 x2 = some a) : Ct l yX5_way (Cond.code yX5_way cX5_way 5 (some .int) :: lw_g) ({ frames := 5, cells := 0, slots := 0, locals := 118 } : Room) D E [.ref (E.2.2.2 + 0), vI x1, vI x2] (Zw E lt b c ms rd m P) (Zw E a.2.1 b c a.2.2 rd m P) (some (vI a.1)) :=
  ct_of (av := fun E => [.ref (E.2.2.2 + 0), vI x1, vI x2]) (W0 := fun E => Zw E lt b c ms rd m P) (W1 := fun E (a : Int × Bd × Bd) => Zw E a.2.1 b c a.2.2 rd m P) (rw := fun E a => some (vI a.1)) (by decide) rfl (fun E => Zw_d E lt b c ms rd m P) (fun E => by simp [lg_sl, z_cat, z_catR, z_catI, z_catL]) (fun K X => r_lv (by simp [lv_args, z_cat, z_catR, z_catI, z_catL]) (t_X5_way N lt b c ms rd m P x1 x2 K X)) l D E a ha
abbrev Q_X5_size (K : KT) (lt b c ms rd m : Bd) (P : PL) : (Int × Bd) → State → Prop := Qm K ({ frames := 2, cells := 0, slots := 0, locals := 41 } : Room) (fun a : Int × Bd => Zw (kE K) a.2 b c ms rd m P) (fun a => some (vI a.1))
set_option maxRecDepth 100000 in
set_option maxHeartbeats 4000000 in
theorem t_X5_size (N : Nat) (lt b c ms rd m : Bd) (P : PL) (x1 : Int) (K : KT) (X : Kok K cX5_size yX5_size.cls lw_g ({ frames := 2, cells := 0, slots := 0, locals := 41 } : Room) (some .int) 3) : Rn K (Q_X5_size K lt b c ms rd m P) 0 0 (f_X5_size lt P x1) 0 [(0, .ref (kB K + 0)), (1, vI x1)] [] (Zw (kE K) lt b c ms rd m P) := by
  unfold f_X5_size
  refine r_aload_n (pc := 0) X 0 dX5_size_0 rfl rfl ?_
  refine r_iload_n (pc := 1) X 1 dX5_size_1 rfl rfl ?_
  refine r_callV (pc := 2) (q0 := 0) (ci := 5) (As := [vI x1]) (rest := []) (W' := fun q2_1 => (Zw (kE K) lt b c ms rd m P)) (rv := fun q2_1 => some (vG (kB K) q2_1)) X dX5_size_2 rfl (fun a ha => c_X5_graphOf N lt b c ms rd m P x1 K.1.2.1 K.2.2.1.1 (kE K) a ha) (fun a => Zw_d _ _ _ _ _ _ _ _) gd_X5_92 rfl (n := 1) (by decide) rfl (by decide) rfl rfl rfl (Nat.zero_le _) (fun q2_1 eq2_1 => ?_)
  show Rn K _ 0 0 _ 5 [(0, .ref (kB K + 0)), (1, vI x1)] [vG (kB K) q2_1] (Zw (kE K) lt b c ms rd m P)
  refine r_gstore_n (pc := 5) (lv' := [(0, .ref (kB K + 0)), (1, vI x1), (2, vG (kB K) q2_1)]) X [1, 2, 0] dX5_size_5 rfl (by decide) rfl ?_
  refine r_gload_n (pc := 6) X 2 dX5_size_6 rfl rfl ?_
  refine r_ifnonnull (pc := 7) X dX5_size_7 (tgt := 17) (by decide) (fun h2 => ?_) (fun h2 => ?_)
  · refine r_aload_n (pc := 10) X 0 dX5_size_10 rfl rfl ?_
    refine r_callV (pc := 11) (q0 := 0) (ci := 5) (As := []) (rest := []) (W' := fun q11_3 => (Zw (kE K) q11_3.2 b c ms rd m P)) (rv := fun q11_3 => some (vI q11_3.1)) X dX5_size_11 rfl (fun a ha => c_X5_refuseBad N lt b c ms rd m P K.1.2.1 K.2.2.1.1 (kE K) a ha) (fun a => Zw_d _ _ _ _ _ _ _ _) gd_X5_53 rfl (n := 0) (by decide) rfl (by decide) rfl rfl rfl (Nat.zero_le _) (fun q11_3 eq11_3 => ?_)
    show Rn K _ 0 0 _ 14 [(0, .ref (kB K + 0)), (1, vI x1), (2, vG (kB K) q2_1)] [vI q11_3.1] (Zw (kE K) q11_3.2 b c ms rd m P)
    refine r_goto (pc := 14) X dX5_size_14 (tgt := 21) (by decide) ?_
    exact r_iret (pc := 21) X rfl rfl (by decide) dX5_size_21
  · refine r_gload_n (pc := 17) X 2 dX5_size_17 rfl rfl ?_
    refine r_ckG (fun h4 => ?_)
    refine r_rf0 h4.1 ?_
    refine r_get (pc := 18) (v := vI ((gP P q2_1).1)) X (62 + 2 * (q2_1).toNat) 0 inX2 (zg_gobj h4) rfl (by decide) tf_X5_125 rfl dX5_size_18 ?_
    exact r_iret (pc := 21) X rfl rfl (by decide) dX5_size_21
theorem c_X5_size (N : Nat) (lt b c ms rd m : Bd) (P : PL) (x1 : Int) (l : Launch) (D : va_G) (E : ET) (a : Int × Bd) (ha : f_X5_size lt P x1 = some a) : Ct l yX5_size (Cond.code yX5_size cX5_size 3 (some .int) :: lw_g) ({ frames := 2, cells := 0, slots := 0, locals := 41 } : Room) D E [.ref (E.2.2.2 + 0), vI x1] (Zw E lt b c ms rd m P) (Zw E a.2 b c ms rd m P) (some (vI a.1)) :=
  ct_of (av := fun E => [.ref (E.2.2.2 + 0), vI x1]) (W0 := fun E => Zw E lt b c ms rd m P) (W1 := fun E (a : Int × Bd) => Zw E a.2 b c ms rd m P) (rw := fun E a => some (vI a.1)) (by decide) rfl (fun E => Zw_d E lt b c ms rd m P) (fun E => by simp [lg_sl, z_cat, z_catR, z_catI, z_catL]) (fun K X => r_lv (by simp [lv_args, z_cat, z_catR, z_catI, z_catL]) (t_X5_size N lt b c ms rd m P x1 K X)) l D E a ha
abbrev Q_X5_head (K : KT) (lt b c ms rd m : Bd) (P : PL) : (Int × Bd) → State → Prop := Qm K ({ frames := 2, cells := 0, slots := 0, locals := 42 } : Room) (fun a : Int × Bd => Zw (kE K) a.2 b c ms rd m P) (fun a => some (vI a.1))
set_option maxRecDepth 100000 in
set_option maxHeartbeats 4000000 in
theorem t_X5_head (N : Nat) (lt b c ms rd m : Bd) (P : PL) (x1 : Int) (K : KT) (X : Kok K cX5_head yX5_head.cls lw_g ({ frames := 2, cells := 0, slots := 0, locals := 42 } : Room) (some .int) 3) : Rn K (Q_X5_head K lt b c ms rd m P) 0 0 (f_X5_head lt P x1) 0 [(0, .ref (kB K + 0)), (1, vI x1)] [] (Zw (kE K) lt b c ms rd m P) := by
  unfold f_X5_head
  refine r_aload_n (pc := 0) X 0 dX5_head_0 rfl rfl ?_
  refine r_iload_n (pc := 1) X 1 dX5_head_1 rfl rfl ?_
  refine r_callV (pc := 2) (q0 := 0) (ci := 5) (As := [vI x1]) (rest := []) (W' := fun q2_1 => (Zw (kE K) lt b c ms rd m P)) (rv := fun q2_1 => some (vG (kB K) q2_1)) X dX5_head_2 rfl (fun a ha => c_X5_graphOf N lt b c ms rd m P x1 K.1.2.1 K.2.2.1.1 (kE K) a ha) (fun a => Zw_d _ _ _ _ _ _ _ _) gd_X5_92 rfl (n := 1) (by decide) rfl (by decide) rfl rfl rfl (Nat.zero_le _) (fun q2_1 eq2_1 => ?_)
  show Rn K _ 0 0 _ 5 [(0, .ref (kB K + 0)), (1, vI x1)] [vG (kB K) q2_1] (Zw (kE K) lt b c ms rd m P)
  refine r_gstore_n (pc := 5) (lv' := [(0, .ref (kB K + 0)), (1, vI x1), (2, vG (kB K) q2_1)]) X [1, 2, 0] dX5_head_5 rfl (by decide) rfl ?_
  refine r_gload_n (pc := 6) X 2 dX5_head_6 rfl rfl ?_
  refine r_ifnonnull (pc := 7) X dX5_head_7 (tgt := 17) (by decide) (fun h2 => ?_) (fun h2 => ?_)
  · refine r_aload_n (pc := 10) X 0 dX5_head_10 rfl rfl ?_
    refine r_callV (pc := 11) (q0 := 0) (ci := 5) (As := []) (rest := []) (W' := fun q11_3 => (Zw (kE K) q11_3.2 b c ms rd m P)) (rv := fun q11_3 => some (vI q11_3.1)) X dX5_head_11 rfl (fun a ha => c_X5_refuseBad N lt b c ms rd m P K.1.2.1 K.2.2.1.1 (kE K) a ha) (fun a => Zw_d _ _ _ _ _ _ _ _) gd_X5_53 rfl (n := 0) (by decide) rfl (by decide) rfl rfl rfl (Nat.zero_le _) (fun q11_3 eq11_3 => ?_)
    show Rn K _ 0 0 _ 14 [(0, .ref (kB K + 0)), (1, vI x1), (2, vG (kB K) q2_1)] [vI q11_3.1] (Zw (kE K) q11_3.2 b c ms rd m P)
    refine r_goto (pc := 14) X dX5_head_14 (tgt := 22) (by decide) ?_
    exact r_iret (pc := 22) X rfl rfl (by decide) dX5_head_22
  · refine r_gload_n (pc := 17) X 2 dX5_head_17 rfl rfl ?_
    refine r_iconst (pc := 18) X 0 dX5_head_18 (by decide) ?_
    refine r_ckG (fun h4 => ?_)
    refine r_rf1 h4.1 ?_
    refine r_callV (pc := 19) (q0 := (62 + 2 * (q2_1).toNat)) (ci := 2) (As := [vI 0]) (rest := []) (W' := fun q19_5 => (Zw (kE K) lt b c ms rd m P)) (rv := fun q19_5 => some (vI q19_5)) X dX5_head_19 rfl (fun a ha => c_X2_headAt N lt b c ms rd m P q2_1 h4 0 K.1.2.1 K.2.2.1.1 (kE K) a ha) (fun a => Zw_d _ _ _ _ _ _ _ _) gd_X5_128 rfl (n := 1) (by decide) rfl (by decide) rfl rfl (zg_gobj h4) (Nat.zero_le _) (fun q19_5 eq19_5 => ?_)
    show Rn K _ 0 0 _ 22 [(0, .ref (kB K + 0)), (1, vI x1), (2, vG (kB K) q2_1)] [vI q19_5] (Zw (kE K) lt b c ms rd m P)
    exact r_iret (pc := 22) X rfl rfl (by decide) dX5_head_22
theorem c_X5_head (N : Nat) (lt b c ms rd m : Bd) (P : PL) (x1 : Int) (l : Launch) (D : va_G) (E : ET) (a : Int × Bd) (ha : f_X5_head lt P x1 = some a) : Ct l yX5_head (Cond.code yX5_head cX5_head 3 (some .int) :: lw_g) ({ frames := 2, cells := 0, slots := 0, locals := 42 } : Room) D E [.ref (E.2.2.2 + 0), vI x1] (Zw E lt b c ms rd m P) (Zw E a.2 b c ms rd m P) (some (vI a.1)) :=
  ct_of (av := fun E => [.ref (E.2.2.2 + 0), vI x1]) (W0 := fun E => Zw E lt b c ms rd m P) (W1 := fun E (a : Int × Bd) => Zw E a.2 b c ms rd m P) (rw := fun E a => some (vI a.1)) (by decide) rfl (fun E => Zw_d E lt b c ms rd m P) (fun E => by simp [lg_sl, z_cat, z_catR, z_catI, z_catL]) (fun K X => r_lv (by simp [lv_args, z_cat, z_catR, z_catI, z_catL]) (t_X5_head N lt b c ms rd m P x1 K X)) l D E a ha
abbrev Q_X5_code (K : KT) (lt b c ms rd m : Bd) (P : PL) : (Int × Bd) → State → Prop := Qm K ({ frames := 4, cells := 0, slots := 0, locals := 88 } : Room) (fun a : Int × Bd => Zw (kE K) a.2 b c ms rd m P) (fun a => some (vL a.1))
set_option maxRecDepth 100000 in
set_option maxHeartbeats 4000000 in
theorem t_X5_code (N : Nat) (lt b c ms rd m : Bd) (P : PL) (x1 : Int) (K : KT) (X : Kok K cX5_code yX5_code.cls lw_g ({ frames := 4, cells := 0, slots := 0, locals := 88 } : Room) (some .long) 3) : Rn K (Q_X5_code K lt b c ms rd m P) 0 0 (f_X5_code N lt P x1) 0 [(0, .ref (kB K + 0)), (1, vI x1)] [] (Zw (kE K) lt b c ms rd m P) := by
  unfold f_X5_code
  refine r_aload_n (pc := 0) X 0 dX5_code_0 rfl rfl ?_
  refine r_iload_n (pc := 1) X 1 dX5_code_1 rfl rfl ?_
  refine r_callV (pc := 2) (q0 := 0) (ci := 5) (As := [vI x1]) (rest := []) (W' := fun q2_1 => (Zw (kE K) lt b c ms rd m P)) (rv := fun q2_1 => some (vG (kB K) q2_1)) X dX5_code_2 rfl (fun a ha => c_X5_graphOf N lt b c ms rd m P x1 K.1.2.1 K.2.2.1.1 (kE K) a ha) (fun a => Zw_d _ _ _ _ _ _ _ _) gd_X5_92 rfl (n := 1) (by decide) rfl (by decide) rfl rfl rfl (Nat.zero_le _) (fun q2_1 eq2_1 => ?_)
  show Rn K _ 0 0 _ 5 [(0, .ref (kB K + 0)), (1, vI x1)] [vG (kB K) q2_1] (Zw (kE K) lt b c ms rd m P)
  refine r_gstore_n (pc := 5) (lv' := [(0, .ref (kB K + 0)), (1, vI x1), (2, vG (kB K) q2_1)]) X [1, 2, 0] dX5_code_5 rfl (by decide) rfl ?_
  refine r_gload_n (pc := 6) X 2 dX5_code_6 rfl rfl ?_
  refine r_ifnonnull (pc := 7) X dX5_code_7 (tgt := 18) (by decide) (fun h2 => ?_) (fun h2 => ?_)
  · refine r_aload_n (pc := 10) X 0 dX5_code_10 rfl rfl ?_
    refine r_callV (pc := 11) (q0 := 0) (ci := 5) (As := []) (rest := []) (W' := fun q11_3 => (Zw (kE K) q11_3.2 b c ms rd m P)) (rv := fun q11_3 => some (vI q11_3.1)) X dX5_code_11 rfl (fun a ha => c_X5_refuseBad N lt b c ms rd m P K.1.2.1 K.2.2.1.1 (kE K) a ha) (fun a => Zw_d _ _ _ _ _ _ _ _) gd_X5_53 rfl (n := 0) (by decide) rfl (by decide) rfl rfl rfl (Nat.zero_le _) (fun q11_3 eq11_3 => ?_)
    show Rn K _ 0 0 _ 14 [(0, .ref (kB K + 0)), (1, vI x1), (2, vG (kB K) q2_1)] [vI q11_3.1] (Zw (kE K) q11_3.2 b c ms rd m P)
    refine r_ck1 (fun h4 => ?_)
    refine r_i2l (pc := 14) X h4 dX5_code_14 ?_
    refine r_goto (pc := 15) X dX5_code_15 (tgt := 22) (by decide) ?_
    exact r_lret (pc := 22) X rfl rfl (by decide) dX5_code_22
  · refine r_gload_n (pc := 18) X 2 dX5_code_18 rfl rfl ?_
    refine r_ckG (fun h5 => ?_)
    refine r_rf0 h5.1 ?_
    refine r_callV (pc := 19) (q0 := (62 + 2 * (q2_1).toNat)) (ci := 2) (As := []) (rest := []) (W' := fun q19_6 => (Zw (kE K) lt b c ms rd m P)) (rv := fun q19_6 => some (vL q19_6)) X dX5_code_19 rfl (fun a ha => c_X2_codeOf N lt b c ms rd m P q2_1 h5 K.1.2.1 K.2.2.1.1 (kE K) a ha) (fun a => Zw_d _ _ _ _ _ _ _ _) gd_X5_131 rfl (n := 0) (by decide) rfl (by decide) rfl rfl (zg_gobj h5) (Nat.zero_le _) (fun q19_6 eq19_6 => ?_)
    show Rn K _ 0 0 _ 22 [(0, .ref (kB K + 0)), (1, vI x1), (2, vG (kB K) q2_1)] [vL q19_6] (Zw (kE K) lt b c ms rd m P)
    exact r_lret (pc := 22) X rfl rfl (by decide) dX5_code_22
theorem c_X5_code (N : Nat) (lt b c ms rd m : Bd) (P : PL) (x1 : Int) (l : Launch) (D : va_G) (E : ET) (a : Int × Bd) (ha : f_X5_code N lt P x1 = some a) : Ct l yX5_code (Cond.code yX5_code cX5_code 3 (some .long) :: lw_g) ({ frames := 4, cells := 0, slots := 0, locals := 88 } : Room) D E [.ref (E.2.2.2 + 0), vI x1] (Zw E lt b c ms rd m P) (Zw E a.2 b c ms rd m P) (some (vL a.1)) :=
  ct_of (av := fun E => [.ref (E.2.2.2 + 0), vI x1]) (W0 := fun E => Zw E lt b c ms rd m P) (W1 := fun E (a : Int × Bd) => Zw E a.2 b c ms rd m P) (rw := fun E a => some (vL a.1)) (by decide) rfl (fun E => Zw_d E lt b c ms rd m P) (fun E => by simp [lg_sl, z_cat, z_catR, z_catI, z_catL]) (fun K X => r_lv (by simp [lv_args, z_cat, z_catR, z_catI, z_catL]) (t_X5_code N lt b c ms rd m P x1 K X)) l D E a ha
abbrev Q_X5_deep (K : KT) (lt b c ms rd m : Bd) (P : PL) : (Int × Bd × Bd) → State → Prop := Qm K ({ frames := 5, cells := 0, slots := 0, locals := 112 } : Room) (fun a : Int × Bd × Bd => Zw (kE K) a.2.1 b c a.2.2 rd m P) (fun a => some (vI a.1))
set_option maxRecDepth 100000 in
set_option maxHeartbeats 4000000 in
theorem t_X5_deep (N : Nat) (lt b c ms rd m : Bd) (P : PL) (x1 : Int) (K : KT) (X : Kok K cX5_deep yX5_deep.cls lw_g ({ frames := 5, cells := 0, slots := 0, locals := 112 } : Room) (some .int) 3) : Rn K (Q_X5_deep K lt b c ms rd m P) 0 0 (f_X5_deep N lt ms P x1) 0 [(0, .ref (kB K + 0)), (1, vI x1)] [] (Zw (kE K) lt b c ms rd m P) := by
  unfold f_X5_deep
  refine r_aload_n (pc := 0) X 0 dX5_deep_0 rfl rfl ?_
  refine r_iload_n (pc := 1) X 1 dX5_deep_1 rfl rfl ?_
  refine r_callV (pc := 2) (q0 := 0) (ci := 5) (As := [vI x1]) (rest := []) (W' := fun q2_1 => (Zw (kE K) lt b c ms rd m P)) (rv := fun q2_1 => some (vG (kB K) q2_1)) X dX5_deep_2 rfl (fun a ha => c_X5_graphOf N lt b c ms rd m P x1 K.1.2.1 K.2.2.1.1 (kE K) a ha) (fun a => Zw_d _ _ _ _ _ _ _ _) gd_X5_92 rfl (n := 1) (by decide) rfl (by decide) rfl rfl rfl (Nat.zero_le _) (fun q2_1 eq2_1 => ?_)
  show Rn K _ 0 0 _ 5 [(0, .ref (kB K + 0)), (1, vI x1)] [vG (kB K) q2_1] (Zw (kE K) lt b c ms rd m P)
  refine r_gstore_n (pc := 5) (lv' := [(0, .ref (kB K + 0)), (1, vI x1), (2, vG (kB K) q2_1)]) X [1, 2, 0] dX5_deep_5 rfl (by decide) rfl ?_
  refine r_gload_n (pc := 6) X 2 dX5_deep_6 rfl rfl ?_
  refine r_ifnonnull (pc := 7) X dX5_deep_7 (tgt := 17) (by decide) (fun h2 => ?_) (fun h2 => ?_)
  · refine r_aload_n (pc := 10) X 0 dX5_deep_10 rfl rfl ?_
    refine r_callV (pc := 11) (q0 := 0) (ci := 5) (As := []) (rest := []) (W' := fun q11_3 => (Zw (kE K) q11_3.2 b c ms rd m P)) (rv := fun q11_3 => some (vI q11_3.1)) X dX5_deep_11 rfl (fun a ha => c_X5_refuseBad N lt b c ms rd m P K.1.2.1 K.2.2.1.1 (kE K) a ha) (fun a => Zw_d _ _ _ _ _ _ _ _) gd_X5_53 rfl (n := 0) (by decide) rfl (by decide) rfl rfl rfl (Nat.zero_le _) (fun q11_3 eq11_3 => ?_)
    show Rn K _ 0 0 _ 14 [(0, .ref (kB K + 0)), (1, vI x1), (2, vG (kB K) q2_1)] [vI q11_3.1] (Zw (kE K) q11_3.2 b c ms rd m P)
    refine r_goto (pc := 14) X dX5_deep_14 (tgt := 25) (by decide) ?_
    exact r_iret (pc := 25) X rfl rfl (by decide) dX5_deep_25
  · refine r_aload_n (pc := 17) X 0 dX5_deep_17 rfl rfl ?_
    refine r_get (pc := 18) (v := .ref (kB K + 19)) X 0 13 inX5 rfl rfl (by decide) tf_X5_42 rfl dX5_deep_18 ?_
    refine r_gload_n (pc := 21) X 2 dX5_deep_21 rfl rfl ?_
    refine r_callV (pc := 22) (q0 := 19) (ci := 3) (As := [vG (kB K) q2_1]) (rest := []) (W' := fun q22_4 => (Zw (kE K) lt b c q22_4.2 rd m P)) (rv := fun q22_4 => some (vI q22_4.1)) X dX5_deep_22 rfl (fun a ha => c_X3_longestWay N lt b c ms rd m P q2_1 K.1.2.1 K.2.2.1.1 (kE K) a ha) (fun a => Zw_d _ _ _ _ _ _ _ _) gd_X5_135 rfl (n := 1) (by decide) rfl (by decide) rfl rfl rfl (Nat.zero_le _) (fun q22_4 eq22_4 => ?_)
    show Rn K _ 0 0 _ 25 [(0, .ref (kB K + 0)), (1, vI x1), (2, vG (kB K) q2_1)] [vI q22_4.1] (Zw (kE K) lt b c q22_4.2 rd m P)
    exact r_iret (pc := 25) X rfl rfl (by decide) dX5_deep_25
theorem c_X5_deep (N : Nat) (lt b c ms rd m : Bd) (P : PL) (x1 : Int) (l : Launch) (D : va_G) (E : ET) (a : Int × Bd × Bd) (ha : f_X5_deep N lt ms P x1 = some a) : Ct l yX5_deep (Cond.code yX5_deep cX5_deep 3 (some .int) :: lw_g) ({ frames := 5, cells := 0, slots := 0, locals := 112 } : Room) D E [.ref (E.2.2.2 + 0), vI x1] (Zw E lt b c ms rd m P) (Zw E a.2.1 b c a.2.2 rd m P) (some (vI a.1)) :=
  ct_of (av := fun E => [.ref (E.2.2.2 + 0), vI x1]) (W0 := fun E => Zw E lt b c ms rd m P) (W1 := fun E (a : Int × Bd × Bd) => Zw E a.2.1 b c a.2.2 rd m P) (rw := fun E a => some (vI a.1)) (by decide) rfl (fun E => Zw_d E lt b c ms rd m P) (fun E => by simp [lg_sl, z_cat, z_catR, z_catI, z_catL]) (fun K X => r_lv (by simp [lv_args, z_cat, z_catR, z_catI, z_catL]) (t_X5_deep N lt b c ms rd m P x1 K X)) l D E a ha
abbrev Q_X5_heads (K : KT) (lt b c ms rd m : Bd) (P : PL) : (Int × Bd × Bd) → State → Prop := Qm K ({ frames := 5, cells := 0, slots := 0, locals := 113 } : Room) (fun a : Int × Bd × Bd => Zw (kE K) a.2.1 b c a.2.2 rd m P) (fun a => some (vI a.1))
set_option maxRecDepth 100000 in
set_option maxHeartbeats 4000000 in
theorem t_X5_heads (N : Nat) (lt b c ms rd m : Bd) (P : PL) (x1 : Int) (K : KT) (X : Kok K cX5_heads yX5_heads.cls lw_g ({ frames := 5, cells := 0, slots := 0, locals := 113 } : Room) (some .int) 3) : Rn K (Q_X5_heads K lt b c ms rd m P) 0 0 (f_X5_heads N lt ms P x1) 0 [(0, .ref (kB K + 0)), (1, vI x1)] [] (Zw (kE K) lt b c ms rd m P) := by
  unfold f_X5_heads
  refine r_aload_n (pc := 0) X 0 dX5_heads_0 rfl rfl ?_
  refine r_iload_n (pc := 1) X 1 dX5_heads_1 rfl rfl ?_
  refine r_callV (pc := 2) (q0 := 0) (ci := 5) (As := [vI x1]) (rest := []) (W' := fun q2_1 => (Zw (kE K) lt b c ms rd m P)) (rv := fun q2_1 => some (vG (kB K) q2_1)) X dX5_heads_2 rfl (fun a ha => c_X5_graphOf N lt b c ms rd m P x1 K.1.2.1 K.2.2.1.1 (kE K) a ha) (fun a => Zw_d _ _ _ _ _ _ _ _) gd_X5_92 rfl (n := 1) (by decide) rfl (by decide) rfl rfl rfl (Nat.zero_le _) (fun q2_1 eq2_1 => ?_)
  show Rn K _ 0 0 _ 5 [(0, .ref (kB K + 0)), (1, vI x1)] [vG (kB K) q2_1] (Zw (kE K) lt b c ms rd m P)
  refine r_gstore_n (pc := 5) (lv' := [(0, .ref (kB K + 0)), (1, vI x1), (2, vG (kB K) q2_1)]) X [1, 2, 0] dX5_heads_5 rfl (by decide) rfl ?_
  refine r_gload_n (pc := 6) X 2 dX5_heads_6 rfl rfl ?_
  refine r_ifnonnull (pc := 7) X dX5_heads_7 (tgt := 17) (by decide) (fun h2 => ?_) (fun h2 => ?_)
  · refine r_aload_n (pc := 10) X 0 dX5_heads_10 rfl rfl ?_
    refine r_callV (pc := 11) (q0 := 0) (ci := 5) (As := []) (rest := []) (W' := fun q11_3 => (Zw (kE K) q11_3.2 b c ms rd m P)) (rv := fun q11_3 => some (vI q11_3.1)) X dX5_heads_11 rfl (fun a ha => c_X5_refuseBad N lt b c ms rd m P K.1.2.1 K.2.2.1.1 (kE K) a ha) (fun a => Zw_d _ _ _ _ _ _ _ _) gd_X5_53 rfl (n := 0) (by decide) rfl (by decide) rfl rfl rfl (Nat.zero_le _) (fun q11_3 eq11_3 => ?_)
    show Rn K _ 0 0 _ 14 [(0, .ref (kB K + 0)), (1, vI x1), (2, vG (kB K) q2_1)] [vI q11_3.1] (Zw (kE K) q11_3.2 b c ms rd m P)
    refine r_goto (pc := 14) X dX5_heads_14 (tgt := 25) (by decide) ?_
    exact r_iret (pc := 25) X rfl rfl (by decide) dX5_heads_25
  · refine r_aload_n (pc := 17) X 0 dX5_heads_17 rfl rfl ?_
    refine r_get (pc := 18) (v := .ref (kB K + 19)) X 0 13 inX5 rfl rfl (by decide) tf_X5_42 rfl dX5_heads_18 ?_
    refine r_gload_n (pc := 21) X 2 dX5_heads_21 rfl rfl ?_
    refine r_callV (pc := 22) (q0 := 19) (ci := 3) (As := [vG (kB K) q2_1]) (rest := []) (W' := fun q22_4 => (Zw (kE K) lt b c q22_4.2 rd m P)) (rv := fun q22_4 => some (vI q22_4.1)) X dX5_heads_22 rfl (fun a ha => c_X3_treeHeads N lt b c ms rd m P q2_1 K.1.2.1 K.2.2.1.1 (kE K) a ha) (fun a => Zw_d _ _ _ _ _ _ _ _) gd_X5_139 rfl (n := 1) (by decide) rfl (by decide) rfl rfl rfl (Nat.zero_le _) (fun q22_4 eq22_4 => ?_)
    show Rn K _ 0 0 _ 25 [(0, .ref (kB K + 0)), (1, vI x1), (2, vG (kB K) q2_1)] [vI q22_4.1] (Zw (kE K) lt b c q22_4.2 rd m P)
    exact r_iret (pc := 25) X rfl rfl (by decide) dX5_heads_25
theorem c_X5_heads (N : Nat) (lt b c ms rd m : Bd) (P : PL) (x1 : Int) (l : Launch) (D : va_G) (E : ET) (a : Int × Bd × Bd) (ha : f_X5_heads N lt ms P x1 = some a) : Ct l yX5_heads (Cond.code yX5_heads cX5_heads 3 (some .int) :: lw_g) ({ frames := 5, cells := 0, slots := 0, locals := 113 } : Room) D E [.ref (E.2.2.2 + 0), vI x1] (Zw E lt b c ms rd m P) (Zw E a.2.1 b c a.2.2 rd m P) (some (vI a.1)) :=
  ct_of (av := fun E => [.ref (E.2.2.2 + 0), vI x1]) (W0 := fun E => Zw E lt b c ms rd m P) (W1 := fun E (a : Int × Bd × Bd) => Zw E a.2.1 b c a.2.2 rd m P) (rw := fun E a => some (vI a.1)) (by decide) rfl (fun E => Zw_d E lt b c ms rd m P) (fun E => by simp [lg_sl, z_cat, z_catR, z_catI, z_catL]) (fun K X => r_lv (by simp [lv_args, z_cat, z_catR, z_catI, z_catL]) (t_X5_heads N lt b c ms rd m P x1 K X)) l D E a ha
abbrev Q_X5_many (K : KT) (lt b c ms rd m : Bd) (P : PL) : (Int × Bd) → State → Prop := Qm K ({ frames := 3, cells := 0, slots := 0, locals := 65 } : Room) (fun a : Int × Bd => Zw (kE K) a.2 b c ms rd m P) (fun a => some (vI a.1))
set_option maxRecDepth 100000 in
set_option maxHeartbeats 4000000 in
theorem t_X5_many (N : Nat) (lt b c ms rd m : Bd) (P : PL) (x1 x2 : Int) (K : KT) (X : Kok K cX5_many yX5_many.cls lw_g ({ frames := 3, cells := 0, slots := 0, locals := 65 } : Room) (some .int) 4) : Rn K (Q_X5_many K lt b c ms rd m P) 0 0 (f_X5_many N lt P x1 x2) 0 [(0, .ref (kB K + 0)), (1, vI x1), (2, vI x2)] [] (Zw (kE K) lt b c ms rd m P) := by
  unfold f_X5_many
  refine r_aload_n (pc := 0) X 0 dX5_many_0 rfl rfl ?_
  refine r_iload_n (pc := 1) X 1 dX5_many_1 rfl rfl ?_
  refine r_callV (pc := 2) (q0 := 0) (ci := 5) (As := [vI x1]) (rest := []) (W' := fun q2_1 => (Zw (kE K) lt b c ms rd m P)) (rv := fun q2_1 => some (vG (kB K) q2_1)) X dX5_many_2 rfl (fun a ha => c_X5_graphOf N lt b c ms rd m P x1 K.1.2.1 K.2.2.1.1 (kE K) a ha) (fun a => Zw_d _ _ _ _ _ _ _ _) gd_X5_92 rfl (n := 1) (by decide) rfl (by decide) rfl rfl rfl (Nat.zero_le _) (fun q2_1 eq2_1 => ?_)
  show Rn K _ 0 0 _ 5 [(0, .ref (kB K + 0)), (1, vI x1), (2, vI x2)] [vG (kB K) q2_1] (Zw (kE K) lt b c ms rd m P)
  refine r_gstore_n (pc := 5) (lv' := [(0, .ref (kB K + 0)), (1, vI x1), (2, vI x2), (3, vG (kB K) q2_1)]) X [1, 2, 3, 0] dX5_many_5 rfl (by decide) rfl ?_
  refine r_gload_n (pc := 6) X 3 dX5_many_6 rfl rfl ?_
  refine r_jn (J := fun j20 => Rn K (Q_X5_many K lt b c ms rd m P) 0 0 j20 20 [(0, .ref (kB K + 0))] [] (Zw (kE K) lt b c ms rd m P)) ?_ (fun j20 hj20 => ?_)
  · skip
    refine r_aload_n (pc := 20) X 0 dX5_many_20 rfl rfl ?_
    refine r_callV (pc := 21) (q0 := 0) (ci := 5) (As := []) (rest := []) (W' := fun q21_2 => (Zw (kE K) q21_2.2 b c ms rd m P)) (rv := fun q21_2 => some (vI q21_2.1)) X dX5_many_21 rfl (fun a ha => c_X5_refuseBad N lt b c ms rd m P K.1.2.1 K.2.2.1.1 (kE K) a ha) (fun a => Zw_d _ _ _ _ _ _ _ _) gd_X5_53 rfl (n := 0) (by decide) rfl (by decide) rfl rfl rfl (Nat.zero_le _) (fun q21_2 eq21_2 => ?_)
    show Rn K _ 0 0 _ 24 [(0, .ref (kB K + 0))] [vI q21_2.1] (Zw (kE K) q21_2.2 b c ms rd m P)
    exact r_iret (pc := 24) X rfl rfl (by decide) dX5_many_24
  refine r_ifnull (pc := 7) X dX5_many_7 (tgt := 20) (by decide) (fun h3 => ?_) (fun h3 => ?_)
  · refine r_sub [0] rfl ?_
    exact hj20
  · refine r_iload_n (pc := 10) X 2 dX5_many_10 rfl rfl ?_
    refine r_ck1 (fun h4 => ?_)
    refine r_iflt (pc := 11) X h4 dX5_many_11 (tgt := 20) (by decide) (fun h5 => ?_) (fun h5 => ?_)
    · refine r_sub [0] rfl ?_
      exact hj20
    · refine r_iload_n (pc := 14) X 2 dX5_many_14 rfl rfl ?_
      refine r_bipush (pc := 15) X 7 dX5_many_15 (by decide) ?_
      refine r_icmp_lt (pc := 17) X h4 (by decide) dX5_many_17 (tgt := 25) (by decide) (fun h6 => ?_) (fun h6 => ?_)
      · refine r_gload_n (pc := 25) X 3 dX5_many_25 rfl rfl ?_
        refine r_iload_n (pc := 26) X 2 dX5_many_26 rfl rfl ?_
        refine r_ckG (fun h7 => ?_)
        refine r_rf1 h7.1 ?_
        refine r_callV (pc := 27) (q0 := (62 + 2 * (q2_1).toNat)) (ci := 2) (As := [vI x2]) (rest := []) (W' := fun q27_8 => (Zw (kE K) lt b c ms rd m P)) (rv := fun q27_8 => some (vI q27_8)) X dX5_many_27 rfl (fun a ha => c_X2_countOf N lt b c ms rd m P q2_1 h7 x2 K.1.2.1 K.2.2.1.1 (kE K) a ha) (fun a => Zw_d _ _ _ _ _ _ _ _) gd_X5_142 rfl (n := 1) (by decide) rfl (by decide) rfl rfl (zg_gobj h7) (Nat.zero_le _) (fun q27_8 eq27_8 => ?_)
        show Rn K _ 0 0 _ 30 [(0, .ref (kB K + 0)), (1, vI x1), (2, vI x2), (3, vG (kB K) q2_1)] [vI q27_8] (Zw (kE K) lt b c ms rd m P)
        exact r_iret (pc := 30) X rfl rfl (by decide) dX5_many_30
      · refine r_sub [0] rfl ?_
        exact hj20
theorem c_X5_many (N : Nat) (lt b c ms rd m : Bd) (P : PL) (x1 x2 : Int) (l : Launch) (D : va_G) (E : ET) (a : Int × Bd) (ha : f_X5_many N lt P x1 x2 = some a) : Ct l yX5_many (Cond.code yX5_many cX5_many 4 (some .int) :: lw_g) ({ frames := 3, cells := 0, slots := 0, locals := 65 } : Room) D E [.ref (E.2.2.2 + 0), vI x1, vI x2] (Zw E lt b c ms rd m P) (Zw E a.2 b c ms rd m P) (some (vI a.1)) :=
  ct_of (av := fun E => [.ref (E.2.2.2 + 0), vI x1, vI x2]) (W0 := fun E => Zw E lt b c ms rd m P) (W1 := fun E (a : Int × Bd) => Zw E a.2 b c ms rd m P) (rw := fun E a => some (vI a.1)) (by decide) rfl (fun E => Zw_d E lt b c ms rd m P) (fun E => by simp [lg_sl, z_cat, z_catR, z_catI, z_catL]) (fun K X => r_lv (by simp [lv_args, z_cat, z_catR, z_catI, z_catL]) (t_X5_many N lt b c ms rd m P x1 x2 K X)) l D E a ha
abbrev Q_X5_looping (K : KT) (lt b c ms rd m : Bd) (P : PL) : (Int × Bd × Bd) → State → Prop := Qm K ({ frames := 4, cells := 0, slots := 0, locals := 87 } : Room) (fun a : Int × Bd × Bd => Zw (kE K) a.2.1 b c a.2.2 rd m P) (fun a => some (vI a.1))
set_option maxRecDepth 100000 in
set_option maxHeartbeats 4000000 in
theorem t_X5_looping (N : Nat) (lt b c ms rd m : Bd) (P : PL) (x1 : Int) (K : KT) (X : Kok K cX5_looping yX5_looping.cls lw_g ({ frames := 4, cells := 0, slots := 0, locals := 87 } : Room) (some .int) 3) : Rn K (Q_X5_looping K lt b c ms rd m P) 0 0 (f_X5_looping N lt ms P x1) 0 [(0, .ref (kB K + 0)), (1, vI x1)] [] (Zw (kE K) lt b c ms rd m P) := by
  unfold f_X5_looping
  refine r_aload_n (pc := 0) X 0 dX5_looping_0 rfl rfl ?_
  refine r_iload_n (pc := 1) X 1 dX5_looping_1 rfl rfl ?_
  refine r_callV (pc := 2) (q0 := 0) (ci := 5) (As := [vI x1]) (rest := []) (W' := fun q2_1 => (Zw (kE K) lt b c ms rd m P)) (rv := fun q2_1 => some (vG (kB K) q2_1)) X dX5_looping_2 rfl (fun a ha => c_X5_graphOf N lt b c ms rd m P x1 K.1.2.1 K.2.2.1.1 (kE K) a ha) (fun a => Zw_d _ _ _ _ _ _ _ _) gd_X5_92 rfl (n := 1) (by decide) rfl (by decide) rfl rfl rfl (Nat.zero_le _) (fun q2_1 eq2_1 => ?_)
  show Rn K _ 0 0 _ 5 [(0, .ref (kB K + 0)), (1, vI x1)] [vG (kB K) q2_1] (Zw (kE K) lt b c ms rd m P)
  refine r_gstore_n (pc := 5) (lv' := [(0, .ref (kB K + 0)), (1, vI x1), (2, vG (kB K) q2_1)]) X [1, 2, 0] dX5_looping_5 rfl (by decide) rfl ?_
  refine r_gload_n (pc := 6) X 2 dX5_looping_6 rfl rfl ?_
  refine r_ifnonnull (pc := 7) X dX5_looping_7 (tgt := 17) (by decide) (fun h2 => ?_) (fun h2 => ?_)
  · refine r_aload_n (pc := 10) X 0 dX5_looping_10 rfl rfl ?_
    refine r_callV (pc := 11) (q0 := 0) (ci := 5) (As := []) (rest := []) (W' := fun q11_3 => (Zw (kE K) q11_3.2 b c ms rd m P)) (rv := fun q11_3 => some (vI q11_3.1)) X dX5_looping_11 rfl (fun a ha => c_X5_refuseBad N lt b c ms rd m P K.1.2.1 K.2.2.1.1 (kE K) a ha) (fun a => Zw_d _ _ _ _ _ _ _ _) gd_X5_53 rfl (n := 0) (by decide) rfl (by decide) rfl rfl rfl (Nat.zero_le _) (fun q11_3 eq11_3 => ?_)
    show Rn K _ 0 0 _ 14 [(0, .ref (kB K + 0)), (1, vI x1), (2, vG (kB K) q2_1)] [vI q11_3.1] (Zw (kE K) q11_3.2 b c ms rd m P)
    refine r_goto (pc := 14) X dX5_looping_14 (tgt := 25) (by decide) ?_
    exact r_iret (pc := 25) X rfl rfl (by decide) dX5_looping_25
  · refine r_aload_n (pc := 17) X 0 dX5_looping_17 rfl rfl ?_
    refine r_get (pc := 18) (v := .ref (kB K + 19)) X 0 13 inX5 rfl rfl (by decide) tf_X5_42 rfl dX5_looping_18 ?_
    refine r_gload_n (pc := 21) X 2 dX5_looping_21 rfl rfl ?_
    refine r_callV (pc := 22) (q0 := 19) (ci := 3) (As := [vG (kB K) q2_1]) (rest := []) (W' := fun q22_4 => (Zw (kE K) lt b c q22_4.2 rd m P)) (rv := fun q22_4 => some (vI q22_4.1)) X dX5_looping_22 rfl (fun a ha => c_X3_loopCount N lt b c ms rd m P q2_1 K.1.2.1 K.2.2.1.1 (kE K) a ha) (fun a => Zw_d _ _ _ _ _ _ _ _) gd_X5_145 rfl (n := 1) (by decide) rfl (by decide) rfl rfl rfl (Nat.zero_le _) (fun q22_4 eq22_4 => ?_)
    show Rn K _ 0 0 _ 25 [(0, .ref (kB K + 0)), (1, vI x1), (2, vG (kB K) q2_1)] [vI q22_4.1] (Zw (kE K) lt b c q22_4.2 rd m P)
    exact r_iret (pc := 25) X rfl rfl (by decide) dX5_looping_25
theorem c_X5_looping (N : Nat) (lt b c ms rd m : Bd) (P : PL) (x1 : Int) (l : Launch) (D : va_G) (E : ET) (a : Int × Bd × Bd) (ha : f_X5_looping N lt ms P x1 = some a) : Ct l yX5_looping (Cond.code yX5_looping cX5_looping 3 (some .int) :: lw_g) ({ frames := 4, cells := 0, slots := 0, locals := 87 } : Room) D E [.ref (E.2.2.2 + 0), vI x1] (Zw E lt b c ms rd m P) (Zw E a.2.1 b c a.2.2 rd m P) (some (vI a.1)) :=
  ct_of (av := fun E => [.ref (E.2.2.2 + 0), vI x1]) (W0 := fun E => Zw E lt b c ms rd m P) (W1 := fun E (a : Int × Bd × Bd) => Zw E a.2.1 b c a.2.2 rd m P) (rw := fun E a => some (vI a.1)) (by decide) rfl (fun E => Zw_d E lt b c ms rd m P) (fun E => by simp [lg_sl, z_cat, z_catR, z_catI, z_catL]) (fun K X => r_lv (by simp [lv_args, z_cat, z_catR, z_catI, z_catL]) (t_X5_looping N lt b c ms rd m P x1 K X)) l D E a ha
abbrev Q_X5_filled (K : KT) (lt b c ms rd m : Bd) (P : PL) : (Int × Bd × Bd) → State → Prop := Qm K ({ frames := 4, cells := 0, slots := 0, locals := 92 } : Room) (fun a : Int × Bd × Bd => Zw (kE K) a.2.1 b c a.2.2 rd m P) (fun a => some (vI a.1))
set_option maxRecDepth 100000 in
set_option maxHeartbeats 4000000 in
theorem t_X5_filled (N : Nat) (lt b c ms rd m : Bd) (P : PL) (x1 : Int) (K : KT) (X : Kok K cX5_filled yX5_filled.cls lw_g ({ frames := 4, cells := 0, slots := 0, locals := 92 } : Room) (some .int) 3) : Rn K (Q_X5_filled K lt b c ms rd m P) 0 0 (f_X5_filled N lt ms P x1) 0 [(0, .ref (kB K + 0)), (1, vI x1)] [] (Zw (kE K) lt b c ms rd m P) := by
  unfold f_X5_filled
  refine r_aload_n (pc := 0) X 0 dX5_filled_0 rfl rfl ?_
  refine r_iload_n (pc := 1) X 1 dX5_filled_1 rfl rfl ?_
  refine r_callV (pc := 2) (q0 := 0) (ci := 5) (As := [vI x1]) (rest := []) (W' := fun q2_1 => (Zw (kE K) lt b c ms rd m P)) (rv := fun q2_1 => some (vG (kB K) q2_1)) X dX5_filled_2 rfl (fun a ha => c_X5_graphOf N lt b c ms rd m P x1 K.1.2.1 K.2.2.1.1 (kE K) a ha) (fun a => Zw_d _ _ _ _ _ _ _ _) gd_X5_92 rfl (n := 1) (by decide) rfl (by decide) rfl rfl rfl (Nat.zero_le _) (fun q2_1 eq2_1 => ?_)
  show Rn K _ 0 0 _ 5 [(0, .ref (kB K + 0)), (1, vI x1)] [vG (kB K) q2_1] (Zw (kE K) lt b c ms rd m P)
  refine r_gstore_n (pc := 5) (lv' := [(0, .ref (kB K + 0)), (1, vI x1), (2, vG (kB K) q2_1)]) X [1, 2, 0] dX5_filled_5 rfl (by decide) rfl ?_
  refine r_gload_n (pc := 6) X 2 dX5_filled_6 rfl rfl ?_
  refine r_ifnonnull (pc := 7) X dX5_filled_7 (tgt := 15) (by decide) (fun h2 => ?_) (fun h2 => ?_)
  · refine r_aload_n (pc := 10) X 0 dX5_filled_10 rfl rfl ?_
    refine r_callV (pc := 11) (q0 := 0) (ci := 5) (As := []) (rest := []) (W' := fun q11_3 => (Zw (kE K) q11_3.2 b c ms rd m P)) (rv := fun q11_3 => some (vI q11_3.1)) X dX5_filled_11 rfl (fun a ha => c_X5_refuseBad N lt b c ms rd m P K.1.2.1 K.2.2.1.1 (kE K) a ha) (fun a => Zw_d _ _ _ _ _ _ _ _) gd_X5_53 rfl (n := 0) (by decide) rfl (by decide) rfl rfl rfl (Nat.zero_le _) (fun q11_3 eq11_3 => ?_)
    show Rn K _ 0 0 _ 14 [(0, .ref (kB K + 0)), (1, vI x1), (2, vG (kB K) q2_1)] [vI q11_3.1] (Zw (kE K) q11_3.2 b c ms rd m P)
    exact r_iret (pc := 14) X rfl rfl (by decide) dX5_filled_14
  · refine r_aload_n (pc := 15) X 0 dX5_filled_15 rfl rfl ?_
    refine r_get (pc := 16) (v := .ref (kB K + 19)) X 0 13 inX5 rfl rfl (by decide) tf_X5_42 rfl dX5_filled_16 ?_
    refine r_gload_n (pc := 19) X 2 dX5_filled_19 rfl rfl ?_
    refine r_callV (pc := 20) (q0 := 19) (ci := 3) (As := [vG (kB K) q2_1]) (rest := []) (W' := fun q20_4 => (Zw (kE K) lt b c q20_4.2 rd m P)) (rv := fun q20_4 => some (vI q20_4.1)) X dX5_filled_20 rfl (fun a ha => c_X3_leastValue N lt b c ms rd m P q2_1 K.1.2.1 K.2.2.1.1 (kE K) a ha) (fun a => Zw_d _ _ _ _ _ _ _ _) gd_X5_148 rfl (n := 1) (by decide) rfl (by decide) rfl rfl rfl (Nat.zero_le _) (fun q20_4 eq20_4 => ?_)
    show Rn K _ 0 0 _ 23 [(0, .ref (kB K + 0)), (1, vI x1), (2, vG (kB K) q2_1)] [vI q20_4.1] (Zw (kE K) lt b c q20_4.2 rd m P)
    refine r_iconst (pc := 23) X (-1) dX5_filled_23 (by decide) ?_
    refine r_ck1 (fun h5 => ?_)
    refine r_jn (J := fun j32 => ∀ (s_32 : Int), Rn K (Q_X5_filled K lt b c ms rd m P) 0 0 (j32 s_32) 32 [(0, .ref (kB K + 0)), (1, vI x1), (2, vG (kB K) q2_1)] [vI s_32] (Zw (kE K) lt b c q20_4.2 rd m P)) ?_ (fun j32 hj32 => ?_)
    · intro s_32
      exact r_iret (pc := 32) X rfl rfl (by decide) dX5_filled_32
    refine r_eq (z_ite j32) ?_
    refine r_icmp_ne (pc := 24) X h5 (by decide) dX5_filled_24 (tgt := 31) (by decide) (fun h6 => ?_) (fun h6 => ?_)
    · refine r_iconst (pc := 31) X 1 dX5_filled_31 (by decide) ?_
      exact hj32 1
    · refine r_iconst (pc := 27) X 0 dX5_filled_27 (by decide) ?_
      refine r_goto (pc := 28) X dX5_filled_28 (tgt := 32) (by decide) ?_
      exact hj32 0
theorem c_X5_filled (N : Nat) (lt b c ms rd m : Bd) (P : PL) (x1 : Int) (l : Launch) (D : va_G) (E : ET) (a : Int × Bd × Bd) (ha : f_X5_filled N lt ms P x1 = some a) : Ct l yX5_filled (Cond.code yX5_filled cX5_filled 3 (some .int) :: lw_g) ({ frames := 4, cells := 0, slots := 0, locals := 92 } : Room) D E [.ref (E.2.2.2 + 0), vI x1] (Zw E lt b c ms rd m P) (Zw E a.2.1 b c a.2.2 rd m P) (some (vI a.1)) :=
  ct_of (av := fun E => [.ref (E.2.2.2 + 0), vI x1]) (W0 := fun E => Zw E lt b c ms rd m P) (W1 := fun E (a : Int × Bd × Bd) => Zw E a.2.1 b c a.2.2 rd m P) (rw := fun E a => some (vI a.1)) (by decide) rfl (fun E => Zw_d E lt b c ms rd m P) (fun E => by simp [lg_sl, z_cat, z_catR, z_catI, z_catL]) (fun K X => r_lv (by simp [lv_args, z_cat, z_catR, z_catI, z_catL]) (t_X5_filled N lt b c ms rd m P x1 K X)) l D E a ha
abbrev Q_X5_least (K : KT) (lt b c ms rd m : Bd) (P : PL) : (Int × Bd × Bd) → State → Prop := Qm K ({ frames := 4, cells := 0, slots := 0, locals := 92 } : Room) (fun a : Int × Bd × Bd => Zw (kE K) a.2.1 b c a.2.2 rd m P) (fun a => some (vI a.1))
set_option maxRecDepth 100000 in
set_option maxHeartbeats 4000000 in
theorem t_X5_least (N : Nat) (lt b c ms rd m : Bd) (P : PL) (x1 : Int) (K : KT) (X : Kok K cX5_least yX5_least.cls lw_g ({ frames := 4, cells := 0, slots := 0, locals := 92 } : Room) (some .int) 3) : Rn K (Q_X5_least K lt b c ms rd m P) 0 0 (f_X5_least N lt ms P x1) 0 [(0, .ref (kB K + 0)), (1, vI x1)] [] (Zw (kE K) lt b c ms rd m P) := by
  unfold f_X5_least
  refine r_aload_n (pc := 0) X 0 dX5_least_0 rfl rfl ?_
  refine r_iload_n (pc := 1) X 1 dX5_least_1 rfl rfl ?_
  refine r_callV (pc := 2) (q0 := 0) (ci := 5) (As := [vI x1]) (rest := []) (W' := fun q2_1 => (Zw (kE K) lt b c ms rd m P)) (rv := fun q2_1 => some (vG (kB K) q2_1)) X dX5_least_2 rfl (fun a ha => c_X5_graphOf N lt b c ms rd m P x1 K.1.2.1 K.2.2.1.1 (kE K) a ha) (fun a => Zw_d _ _ _ _ _ _ _ _) gd_X5_92 rfl (n := 1) (by decide) rfl (by decide) rfl rfl rfl (Nat.zero_le _) (fun q2_1 eq2_1 => ?_)
  show Rn K _ 0 0 _ 5 [(0, .ref (kB K + 0)), (1, vI x1)] [vG (kB K) q2_1] (Zw (kE K) lt b c ms rd m P)
  refine r_gstore_n (pc := 5) (lv' := [(0, .ref (kB K + 0)), (1, vI x1), (2, vG (kB K) q2_1)]) X [1, 2, 0] dX5_least_5 rfl (by decide) rfl ?_
  refine r_gload_n (pc := 6) X 2 dX5_least_6 rfl rfl ?_
  refine r_ifnonnull (pc := 7) X dX5_least_7 (tgt := 17) (by decide) (fun h2 => ?_) (fun h2 => ?_)
  · refine r_aload_n (pc := 10) X 0 dX5_least_10 rfl rfl ?_
    refine r_callV (pc := 11) (q0 := 0) (ci := 5) (As := []) (rest := []) (W' := fun q11_3 => (Zw (kE K) q11_3.2 b c ms rd m P)) (rv := fun q11_3 => some (vI q11_3.1)) X dX5_least_11 rfl (fun a ha => c_X5_refuseBad N lt b c ms rd m P K.1.2.1 K.2.2.1.1 (kE K) a ha) (fun a => Zw_d _ _ _ _ _ _ _ _) gd_X5_53 rfl (n := 0) (by decide) rfl (by decide) rfl rfl rfl (Nat.zero_le _) (fun q11_3 eq11_3 => ?_)
    show Rn K _ 0 0 _ 14 [(0, .ref (kB K + 0)), (1, vI x1), (2, vG (kB K) q2_1)] [vI q11_3.1] (Zw (kE K) q11_3.2 b c ms rd m P)
    refine r_goto (pc := 14) X dX5_least_14 (tgt := 25) (by decide) ?_
    exact r_iret (pc := 25) X rfl rfl (by decide) dX5_least_25
  · refine r_aload_n (pc := 17) X 0 dX5_least_17 rfl rfl ?_
    refine r_get (pc := 18) (v := .ref (kB K + 19)) X 0 13 inX5 rfl rfl (by decide) tf_X5_42 rfl dX5_least_18 ?_
    refine r_gload_n (pc := 21) X 2 dX5_least_21 rfl rfl ?_
    refine r_callV (pc := 22) (q0 := 19) (ci := 3) (As := [vG (kB K) q2_1]) (rest := []) (W' := fun q22_4 => (Zw (kE K) lt b c q22_4.2 rd m P)) (rv := fun q22_4 => some (vI q22_4.1)) X dX5_least_22 rfl (fun a ha => c_X3_leastValue N lt b c ms rd m P q2_1 K.1.2.1 K.2.2.1.1 (kE K) a ha) (fun a => Zw_d _ _ _ _ _ _ _ _) gd_X5_148 rfl (n := 1) (by decide) rfl (by decide) rfl rfl rfl (Nat.zero_le _) (fun q22_4 eq22_4 => ?_)
    show Rn K _ 0 0 _ 25 [(0, .ref (kB K + 0)), (1, vI x1), (2, vG (kB K) q2_1)] [vI q22_4.1] (Zw (kE K) lt b c q22_4.2 rd m P)
    exact r_iret (pc := 25) X rfl rfl (by decide) dX5_least_25
theorem c_X5_least (N : Nat) (lt b c ms rd m : Bd) (P : PL) (x1 : Int) (l : Launch) (D : va_G) (E : ET) (a : Int × Bd × Bd) (ha : f_X5_least N lt ms P x1 = some a) : Ct l yX5_least (Cond.code yX5_least cX5_least 3 (some .int) :: lw_g) ({ frames := 4, cells := 0, slots := 0, locals := 92 } : Room) D E [.ref (E.2.2.2 + 0), vI x1] (Zw E lt b c ms rd m P) (Zw E a.2.1 b c a.2.2 rd m P) (some (vI a.1)) :=
  ct_of (av := fun E => [.ref (E.2.2.2 + 0), vI x1]) (W0 := fun E => Zw E lt b c ms rd m P) (W1 := fun E (a : Int × Bd × Bd) => Zw E a.2.1 b c a.2.2 rd m P) (rw := fun E a => some (vI a.1)) (by decide) rfl (fun E => Zw_d E lt b c ms rd m P) (fun E => by simp [lg_sl, z_cat, z_catR, z_catI, z_catL]) (fun K X => r_lv (by simp [lv_args, z_cat, z_catR, z_catI, z_catL]) (t_X5_least N lt b c ms rd m P x1 K X)) l D E a ha
abbrev Q_X5_signs (K : KT) (lt b c ms rd m : Bd) (P : PL) : (Int × Bd × Bd) → State → Prop := Qm K ({ frames := 5, cells := 0, slots := 0, locals := 118 } : Room) (fun a : Int × Bd × Bd => Zw (kE K) a.2.1 b c a.2.2 rd m P) (fun a => some (vI a.1))
set_option maxRecDepth 100000 in
set_option maxHeartbeats 4000000 in
theorem t_X5_signs (N : Nat) (lt b c ms rd m : Bd) (P : PL) (x1 x2 : Int) (K : KT) (X : Kok K cX5_signs yX5_signs.cls lw_g ({ frames := 5, cells := 0, slots := 0, locals := 118 } : Room) (some .int) 5) : Rn K (Q_X5_signs K lt b c ms rd m P) 0 0 (f_X5_signs N lt ms P x1 x2) 0 [(0, .ref (kB K + 0)), (1, vI x1), (2, vI x2)] [] (Zw (kE K) lt b c ms rd m P) := by
  unfold f_X5_signs
  refine r_aload_n (pc := 0) X 0 dX5_signs_0 rfl rfl ?_
  refine r_iload_n (pc := 1) X 1 dX5_signs_1 rfl rfl ?_
  refine r_callV (pc := 2) (q0 := 0) (ci := 5) (As := [vI x1]) (rest := []) (W' := fun q2_1 => (Zw (kE K) lt b c ms rd m P)) (rv := fun q2_1 => some (vG (kB K) q2_1)) X dX5_signs_2 rfl (fun a ha => c_X5_graphOf N lt b c ms rd m P x1 K.1.2.1 K.2.2.1.1 (kE K) a ha) (fun a => Zw_d _ _ _ _ _ _ _ _) gd_X5_92 rfl (n := 1) (by decide) rfl (by decide) rfl rfl rfl (Nat.zero_le _) (fun q2_1 eq2_1 => ?_)
  show Rn K _ 0 0 _ 5 [(0, .ref (kB K + 0)), (1, vI x1), (2, vI x2)] [vG (kB K) q2_1] (Zw (kE K) lt b c ms rd m P)
  refine r_gstore_n (pc := 5) (lv' := [(0, .ref (kB K + 0)), (1, vI x1), (2, vI x2), (3, vG (kB K) q2_1)]) X [1, 2, 3, 0] dX5_signs_5 rfl (by decide) rfl ?_
  refine r_aload_n (pc := 6) X 0 dX5_signs_6 rfl rfl ?_
  refine r_iload_n (pc := 7) X 2 dX5_signs_7 rfl rfl ?_
  refine r_callV (pc := 8) (q0 := 0) (ci := 5) (As := [vI x2]) (rest := []) (W' := fun q8_2 => (Zw (kE K) lt b c ms rd m P)) (rv := fun q8_2 => some (vG (kB K) q8_2)) X dX5_signs_8 rfl (fun a ha => c_X5_graphOf N lt b c ms rd m P x2 K.1.2.1 K.2.2.1.1 (kE K) a ha) (fun a => Zw_d _ _ _ _ _ _ _ _) gd_X5_92 rfl (n := 1) (by decide) rfl (by decide) rfl rfl rfl (Nat.zero_le _) (fun q8_2 eq8_2 => ?_)
  show Rn K _ 0 0 _ 11 [(0, .ref (kB K + 0)), (1, vI x1), (2, vI x2), (3, vG (kB K) q2_1)] [vG (kB K) q8_2] (Zw (kE K) lt b c ms rd m P)
  refine r_gstore (pc := 11) (i := 4) (lv' := [(0, .ref (kB K + 0)), (1, vI x1), (2, vI x2), (3, vG (kB K) q2_1), (4, vG (kB K) q8_2)]) X [1, 2, 3, 4, 0] dX5_signs_11 (by decide) (by simp [lv_pick, z_cat]) ?_
  refine r_gload_n (pc := 13) X 3 dX5_signs_13 rfl rfl ?_
  refine r_jn (J := fun j22 => Rn K (Q_X5_signs K lt b c ms rd m P) 0 0 j22 22 [(0, .ref (kB K + 0))] [] (Zw (kE K) lt b c ms rd m P)) ?_ (fun j22 hj22 => ?_)
  · skip
    refine r_aload_n (pc := 22) X 0 dX5_signs_22 rfl rfl ?_
    refine r_callV (pc := 23) (q0 := 0) (ci := 5) (As := []) (rest := []) (W' := fun q23_3 => (Zw (kE K) q23_3.2 b c ms rd m P)) (rv := fun q23_3 => some (vI q23_3.1)) X dX5_signs_23 rfl (fun a ha => c_X5_refuseBad N lt b c ms rd m P K.1.2.1 K.2.2.1.1 (kE K) a ha) (fun a => Zw_d _ _ _ _ _ _ _ _) gd_X5_53 rfl (n := 0) (by decide) rfl (by decide) rfl rfl rfl (Nat.zero_le _) (fun q23_3 eq23_3 => ?_)
    show Rn K _ 0 0 _ 26 [(0, .ref (kB K + 0))] [vI q23_3.1] (Zw (kE K) q23_3.2 b c ms rd m P)
    exact r_iret (pc := 26) X rfl rfl (by decide) dX5_signs_26
  refine r_ifnull (pc := 14) X dX5_signs_14 (tgt := 22) (by decide) (fun h4 => ?_) (fun h4 => ?_)
  · refine r_sub [0] rfl ?_
    exact hj22
  · refine r_gload (pc := 17) X 4 dX5_signs_17 rfl ?_
    refine r_ifnonnull (pc := 19) X dX5_signs_19 (tgt := 27) (by decide) (fun h5 => ?_) (fun h5 => ?_)
    · refine r_sub [0] rfl ?_
      exact hj22
    · refine r_aload_n (pc := 27) X 0 dX5_signs_27 rfl rfl ?_
      refine r_get (pc := 28) (v := .ref (kB K + 19)) X 0 13 inX5 rfl rfl (by decide) tf_X5_42 rfl dX5_signs_28 ?_
      refine r_gload_n (pc := 31) X 3 dX5_signs_31 rfl rfl ?_
      refine r_aload_n (pc := 32) X 0 dX5_signs_32 rfl rfl ?_
      refine r_get (pc := 33) (v := .ref (kB K + 19)) X 0 13 inX5 rfl rfl (by decide) tf_X5_42 rfl dX5_signs_33 ?_
      refine r_gload_n (pc := 36) X 3 dX5_signs_36 rfl rfl ?_
      refine r_gload (pc := 37) X 4 dX5_signs_37 rfl ?_
      refine r_callV (pc := 39) (q0 := 19) (ci := 3) (As := [vG (kB K) q2_1, vG (kB K) q8_2]) (rest := [vG (kB K) q2_1, .ref (kB K + 19)]) (W' := fun q39_6 => (Zw (kE K) lt b c q39_6.2 rd m P)) (rv := fun q39_6 => some (vI q39_6.1)) X dX5_signs_39 rfl (fun a ha => c_X3_placeOf N lt b c ms rd m P q2_1 q8_2 K.1.2.1 K.2.2.1.1 (kE K) a ha) (fun a => Zw_d _ _ _ _ _ _ _ _) gd_X5_118 rfl (n := 2) (by decide) rfl (by decide) rfl rfl rfl (by simp [z_cat, z_catR, z_catI, z_catL]) (fun q39_6 eq39_6 => ?_)
      show Rn K _ 0 0 _ 42 [(0, .ref (kB K + 0)), (1, vI x1), (2, vI x2), (3, vG (kB K) q2_1), (4, vG (kB K) q8_2)] [vI q39_6.1, vG (kB K) q2_1, .ref (kB K + 19)] (Zw (kE K) lt b c q39_6.2 rd m P)
      refine r_callV (pc := 42) (q0 := 19) (ci := 3) (As := [vG (kB K) q2_1, vI q39_6.1]) (rest := []) (W' := fun q42_7 => (Zw (kE K) lt b c q42_7.2 rd m P)) (rv := fun q42_7 => some (vI q42_7.1)) X dX5_signs_42 rfl (fun a ha => c_X3_signsAt N lt b c q39_6.2 rd m P q2_1 q39_6.1 K.1.2.1 K.2.2.1.1 (kE K) a ha) (fun a => Zw_d _ _ _ _ _ _ _ _) gd_X5_151 rfl (n := 2) (by decide) rfl (by decide) rfl rfl rfl (Nat.zero_le _) (fun q42_7 eq42_7 => ?_)
      show Rn K _ 0 0 _ 45 [(0, .ref (kB K + 0)), (1, vI x1), (2, vI x2), (3, vG (kB K) q2_1), (4, vG (kB K) q8_2)] [vI q42_7.1] (Zw (kE K) lt b c q42_7.2 rd m P)
      exact r_iret (pc := 45) X rfl rfl (by decide) dX5_signs_45
theorem c_X5_signs (N : Nat) (lt b c ms rd m : Bd) (P : PL) (x1 x2 : Int) (l : Launch) (D : va_G) (E : ET) (a : Int × Bd × Bd) (ha : f_X5_signs N lt ms P x1 x2 = some a) : Ct l yX5_signs (Cond.code yX5_signs cX5_signs 5 (some .int) :: lw_g) ({ frames := 5, cells := 0, slots := 0, locals := 118 } : Room) D E [.ref (E.2.2.2 + 0), vI x1, vI x2] (Zw E lt b c ms rd m P) (Zw E a.2.1 b c a.2.2 rd m P) (some (vI a.1)) :=
  ct_of (av := fun E => [.ref (E.2.2.2 + 0), vI x1, vI x2]) (W0 := fun E => Zw E lt b c ms rd m P) (W1 := fun E (a : Int × Bd × Bd) => Zw E a.2.1 b c a.2.2 rd m P) (rw := fun E a => some (vI a.1)) (by decide) rfl (fun E => Zw_d E lt b c ms rd m P) (fun E => by simp [lg_sl, z_cat, z_catR, z_catI, z_catL]) (fun K X => r_lv (by simp [lv_args, z_cat, z_catR, z_catI, z_catL]) (t_X5_signs N lt b c ms rd m P x1 x2 K X)) l D E a ha
abbrev Q_X5_give (K : KT) (lt b c ms rd m : Bd) (P : PL) : (Int × Bd) → State → Prop := Qm K ({ frames := 2, cells := 0, slots := 0, locals := 42 } : Room) (fun a : Int × Bd => Zw (kE K) a.2 b c ms rd m P) (fun a => some (vI a.1))
set_option maxRecDepth 100000 in
set_option maxHeartbeats 4000000 in
theorem t_X5_give (N : Nat) (lt b c ms rd m : Bd) (P : PL) (x1 x2 : Int) (K : KT) (X : Kok K cX5_give yX5_give.cls lw_g ({ frames := 2, cells := 0, slots := 0, locals := 42 } : Room) (some .int) 3) : Rn K (Q_X5_give K lt b c ms rd m P) 0 0 (f_X5_give N lt P x1 x2) 0 [(0, .ref (kB K + 0)), (1, vI x1), (2, vG (kB K) x2)] [] (Zw (kE K) lt b c ms rd m P) := by
  unfold f_X5_give
  refine r_gload_n (pc := 0) X 2 dX5_give_0 rfl rfl ?_
  refine r_ifnonnull (pc := 1) X dX5_give_1 (tgt := 9) (by decide) (fun h1 => ?_) (fun h1 => ?_)
  · refine r_aload_n (pc := 4) X 0 dX5_give_4 rfl rfl ?_
    refine r_callV (pc := 5) (q0 := 0) (ci := 5) (As := []) (rest := []) (W' := fun q5_2 => (Zw (kE K) q5_2.2 b c ms rd m P)) (rv := fun q5_2 => some (vI q5_2.1)) X dX5_give_5 rfl (fun a ha => c_X5_refuseFull N lt b c ms rd m P K.1.2.1 K.2.2.1.1 (kE K) a ha) (fun a => Zw_d _ _ _ _ _ _ _ _) gd_X5_61 rfl (n := 0) (by decide) rfl (by decide) rfl rfl rfl (Nat.zero_le _) (fun q5_2 eq5_2 => ?_)
    show Rn K _ 0 0 _ 8 [(0, .ref (kB K + 0)), (1, vI x1), (2, vG (kB K) x2)] [vI q5_2.1] (Zw (kE K) q5_2.2 b c ms rd m P)
    exact r_iret (pc := 8) X rfl rfl (by decide) dX5_give_8
  · refine r_aload_n (pc := 9) X 0 dX5_give_9 rfl rfl ?_
    refine r_callV (pc := 10) (q0 := 0) (ci := 5) (As := []) (rest := []) (W' := fun q10_3 => (Zw (kE K) q10_3 b c ms rd m P)) (rv := fun q10_3 => none) X dX5_give_10 rfl (fun a ha => c_X5_keepVersion N lt b c ms rd m P K.1.2.1 K.2.2.1.1 (kE K) a ha) (fun a => Zw_d _ _ _ _ _ _ _ _) gd_X5_83 rfl (n := 0) (by decide) rfl (by decide) rfl rfl rfl (Nat.zero_le _) (fun q10_3 eq10_3 => ?_)
    show Rn K _ 0 0 _ 13 [(0, .ref (kB K + 0)), (1, vI x1), (2, vG (kB K) x2)] [] (Zw (kE K) q10_3 b c ms rd m P)
    refine r_aload_n (pc := 13) X 0 dX5_give_13 rfl rfl ?_
    refine r_get (pc := 14) (v := .ref (kB K + 2)) X 0 3 inX5 rfl rfl (by decide) tf_X5_15 rfl dX5_give_14 ?_
    refine r_iload_n (pc := 17) X 1 dX5_give_17 rfl rfl ?_
    refine r_gload_n (pc := 18) X 2 dX5_give_18 rfl rfl ?_
    refine r_ckA (fun h4 => ?_)
    refine r_ckN (fun h5 => ?_)
    refine r_aastG (pc := 19) (f := q10_3 3) (ws' := (Zw (kE K) (bS q10_3 3 (aS (q10_3 3) x1 x2)) b c ms rd m P)) X 2 h4 zl_8 h5 rfl rfl dX5_give_19 ?_
    refine r_gload_n (pc := 20) X 2 dX5_give_20 rfl rfl ?_
    refine r_ckG (fun h6 => ?_)
    refine r_rf0 h6.1 ?_
    refine r_get (pc := 21) (v := vI ((gP P x2).1)) X (62 + 2 * (x2).toNat) 0 inX2 (zg_gobj h6) rfl (by decide) tf_X5_125 rfl dX5_give_21 ?_
    exact r_iret (pc := 24) X rfl rfl (by decide) dX5_give_24
theorem c_X5_give (N : Nat) (lt b c ms rd m : Bd) (P : PL) (x1 x2 : Int) (l : Launch) (D : va_G) (E : ET) (a : Int × Bd) (ha : f_X5_give N lt P x1 x2 = some a) : Ct l yX5_give (Cond.code yX5_give cX5_give 3 (some .int) :: lw_g) ({ frames := 2, cells := 0, slots := 0, locals := 42 } : Room) D E [.ref (E.2.2.2 + 0), vI x1, vG (E.2.2.2) x2] (Zw E lt b c ms rd m P) (Zw E a.2 b c ms rd m P) (some (vI a.1)) :=
  ct_of (av := fun E => [.ref (E.2.2.2 + 0), vI x1, vG (E.2.2.2) x2]) (W0 := fun E => Zw E lt b c ms rd m P) (W1 := fun E (a : Int × Bd) => Zw E a.2 b c ms rd m P) (rw := fun E a => some (vI a.1)) (by decide) rfl (fun E => Zw_d E lt b c ms rd m P) (fun E => by simp [lg_sl, z_cat, z_catR, z_catI, z_catL]) (fun K X => r_lv (by simp [lv_args, z_cat, z_catR, z_catI, z_catL]) (t_X5_give N lt b c ms rd m P x1 x2 K X)) l D E a ha
abbrev Q_X5_base (K : KT) (lt b c ms rd m : Bd) (P : PL) : (Int × Bd × Bd × PL) → State → Prop := Qm K ({ frames := 5, cells := 2, slots := 122, locals := 118 } : Room) (fun a : Int × Bd × Bd × PL => Zw (kE K) a.2.1 a.2.2.1 c ms rd m a.2.2.2) (fun a => some (vI a.1))
set_option maxRecDepth 100000 in
set_option maxHeartbeats 4000000 in
theorem t_X5_base (N : Nat) (lt b c ms rd m : Bd) (P : PL) (x1 x2 : Int) (K : KT) (X : Kok K cX5_base yX5_base.cls lw_g ({ frames := 5, cells := 2, slots := 122, locals := 118 } : Room) (some .int) 3) : Rn K (Q_X5_base K lt b c ms rd m P) 0 0 (f_X5_base N lt b P x1 x2) 0 [(0, .ref (kB K + 0)), (1, vI x1), (2, vI x2)] [] (Zw (kE K) lt b c ms rd m P) := by
  unfold f_X5_base
  refine r_iload_n (pc := 0) X 1 dX5_base_0 rfl rfl ?_
  refine r_jn (J := fun j16 => Rn K (Q_X5_base K lt b c ms rd m P) 0 0 j16 16 [(0, .ref (kB K + 0))] [] (Zw (kE K) lt b c ms rd m P)) ?_ (fun j16 hj16 => ?_)
  · skip
    refine r_aload_n (pc := 16) X 0 dX5_base_16 rfl rfl ?_
    refine r_callV (pc := 17) (q0 := 0) (ci := 5) (As := []) (rest := []) (W' := fun q17_1 => (Zw (kE K) q17_1.2 b c ms rd m P)) (rv := fun q17_1 => some (vI q17_1.1)) X dX5_base_17 rfl (fun a ha => c_X5_refuseBad N lt b c ms rd m P K.1.2.1 K.2.2.1.1 (kE K) a ha) (fun a => Zw_d _ _ _ _ _ _ _ _) gd_X5_53 rfl (n := 0) (by decide) rfl (by decide) rfl rfl rfl (Nat.zero_le _) (fun q17_1 eq17_1 => ?_)
    show Rn K _ 0 0 _ 20 [(0, .ref (kB K + 0))] [vI q17_1.1] (Zw (kE K) q17_1.2 b c ms rd m P)
    exact r_iret (pc := 20) X rfl rfl (by decide) dX5_base_20
  refine r_ck1 (fun h2 => ?_)
  refine r_iflt (pc := 1) X h2 dX5_base_1 (tgt := 16) (by decide) (fun h3 => ?_) (fun h3 => ?_)
  · refine r_sub [0] rfl ?_
    exact hj16
  · refine r_iload_n (pc := 4) X 1 dX5_base_4 rfl rfl ?_
    refine r_iconst (pc := 5) X 3 dX5_base_5 (by decide) ?_
    refine r_icmp_gt (pc := 6) X h2 (by decide) dX5_base_6 (tgt := 16) (by decide) (fun h4 => ?_) (fun h4 => ?_)
    · refine r_sub [0] rfl ?_
      exact hj16
    · refine r_iload_n (pc := 9) X 2 dX5_base_9 rfl rfl ?_
      refine r_callS (pc := 10) (As := [vI x2]) (rest := []) (W' := fun q10_5 => (Zw (kE K) lt b c ms rd m P)) (rv := fun q10_5 => some (vI q10_5)) X dX5_base_10 rfl (fun a ha => c_X5_isName N lt b c ms rd m P x2 K.1.2.1 K.2.2.1.1 (kE K) a ha) (fun a => Zw_d _ _ _ _ _ _ _ _) gd_X5_154 rfl (n := 1) (by decide) rfl (by decide) (Nat.zero_le _) (fun q10_5 eq10_5 => ?_)
      show Rn K _ 0 0 _ 13 [(0, .ref (kB K + 0)), (1, vI x1), (2, vI x2)] [vI q10_5] (Zw (kE K) lt b c ms rd m P)
      refine r_ck1 (fun h6 => ?_)
      refine r_ifne (pc := 13) X h6 dX5_base_13 (tgt := 21) (by decide) (fun h7 => ?_) (fun h7 => ?_)
      · refine r_aload_n (pc := 21) X 0 dX5_base_21 rfl rfl ?_
        refine r_get (pc := 22) (v := .ref (kB K + 5)) X 0 11 inX5 rfl rfl (by decide) tf_X5_28 rfl dX5_base_22 ?_
        refine r_callV (pc := 25) (q0 := 5) (ci := 0) (As := []) (rest := []) (W' := fun q25_8 => (Zw (kE K) lt q25_8 c ms rd m P)) (rv := fun q25_8 => none) X dX5_base_25 rfl (fun a ha => c_X0_start N lt b c ms rd m P K.1.2.1 K.2.2.1.1 (kE K) a ha) (fun a => Zw_d _ _ _ _ _ _ _ _) gd_X5_158 rfl (n := 0) (by decide) rfl (by decide) rfl rfl rfl (Nat.zero_le _) (fun q25_8 eq25_8 => ?_)
        show Rn K _ 0 0 _ 28 [(0, .ref (kB K + 0)), (1, vI x1), (2, vI x2)] [] (Zw (kE K) lt q25_8 c ms rd m P)
        refine r_aload_n (pc := 28) X 0 dX5_base_28 rfl rfl ?_
        refine r_iload_n (pc := 29) X 2 dX5_base_29 rfl rfl ?_
        refine r_aload_n (pc := 30) X 0 dX5_base_30 rfl rfl ?_
        refine r_get (pc := 31) (v := .ref (kB K + 5)) X 0 11 inX5 rfl rfl (by decide) tf_X5_28 rfl dX5_base_31 ?_
        refine r_aload_n (pc := 34) X 0 dX5_base_34 rfl rfl ?_
        refine r_get (pc := 35) (v := .ref (kB K + 5)) X 0 11 inX5 rfl rfl (by decide) tf_X5_28 rfl dX5_base_35 ?_
        refine r_iload_n (pc := 38) X 1 dX5_base_38 rfl rfl ?_
        refine r_iconst (pc := 39) X 0 dX5_base_39 (by decide) ?_
        refine r_iconst (pc := 40) X 0 dX5_base_40 (by decide) ?_
        refine r_callV (pc := 41) (q0 := 5) (ci := 0) (As := [vI x1, vI 0, vI 0]) (rest := [.ref (kB K + 5), vI x2, .ref (kB K + 0)]) (W' := fun q41_9 => (Zw (kE K) lt q41_9.2 c ms rd m P)) (rv := fun q41_9 => some (vI q41_9.1)) X dX5_base_41 rfl (fun a ha => c_X0_put N lt q25_8 c ms rd m P x1 0 0 K.1.2.1 K.2.2.1.1 (kE K) a ha) (fun a => Zw_d _ _ _ _ _ _ _ _) gd_X5_161 rfl (n := 3) (by decide) rfl (by decide) rfl rfl rfl (by simp [z_cat, z_catR, z_catI, z_catL]) (fun q41_9 eq41_9 => ?_)
        show Rn K _ 0 0 _ 44 [(0, .ref (kB K + 0)), (1, vI x1), (2, vI x2)] [vI q41_9.1, .ref (kB K + 5), vI x2, .ref (kB K + 0)] (Zw (kE K) lt q41_9.2 c ms rd m P)
        refine r_callV (pc := 44) (q0 := 5) (ci := 0) (As := [vI q41_9.1]) (rest := [vI x2, .ref (kB K + 0)]) (W' := fun q44_10 => (Zw (kE K) lt q44_10.2.1 c ms rd m q44_10.2.2)) (rv := fun q44_10 => some (vG (kB K) q44_10.1)) X dX5_base_44 rfl (fun a ha => c_X0_smallest N lt q41_9.2 c ms rd m P q41_9.1 K.1.2.1 K.2.2.1.1 (kE K) a ha) (fun a => Zw_d _ _ _ _ _ _ _ _) gd_X5_79 rfl (n := 1) (by decide) rfl (by decide) rfl rfl rfl (by simp [z_cat, z_catR, z_catI, z_catL]) (fun q44_10 eq44_10 => ?_)
        show Rn K _ 2 122 _ 47 [(0, .ref (kB K + 0)), (1, vI x1), (2, vI x2)] [vG (kB K) q44_10.1, vI x2, .ref (kB K + 0)] (Zw (kE K) lt q44_10.2.1 c ms rd m q44_10.2.2)
        refine r_callV (pc := 47) (q0 := 0) (ci := 5) (As := [vI x2, vG (kB K) q44_10.1]) (rest := []) (W' := fun q47_11 => (Zw (kE K) q47_11.2 q44_10.2.1 c ms rd m q44_10.2.2)) (rv := fun q47_11 => some (vI q47_11.1)) X dX5_base_47 rfl (fun a ha => c_X5_give N lt q44_10.2.1 c ms rd m q44_10.2.2 x2 q44_10.1 K.1.2.1 K.2.2.1.1 (kE K) a ha) (fun a => Zw_d _ _ _ _ _ _ _ _) gd_X5_165 rfl (n := 2) (by decide) rfl (by decide) rfl rfl rfl (Nat.zero_le _) (fun q47_11 eq47_11 => ?_)
        show Rn K _ 2 122 _ 50 [(0, .ref (kB K + 0)), (1, vI x1), (2, vI x2)] [vI q47_11.1] (Zw (kE K) q47_11.2 q44_10.2.1 c ms rd m q44_10.2.2)
        exact r_iret (pc := 50) X rfl rfl (by decide) dX5_base_50
      · refine r_sub [0] rfl ?_
        exact hj16
theorem c_X5_base (N : Nat) (lt b c ms rd m : Bd) (P : PL) (x1 x2 : Int) (l : Launch) (D : va_G) (E : ET) (a : Int × Bd × Bd × PL) (ha : f_X5_base N lt b P x1 x2 = some a) : Ct l yX5_base (Cond.code yX5_base cX5_base 3 (some .int) :: lw_g) ({ frames := 5, cells := 2, slots := 122, locals := 118 } : Room) D E [.ref (E.2.2.2 + 0), vI x1, vI x2] (Zw E lt b c ms rd m P) (Zw E a.2.1 a.2.2.1 c ms rd m a.2.2.2) (some (vI a.1)) :=
  ct_of (av := fun E => [.ref (E.2.2.2 + 0), vI x1, vI x2]) (W0 := fun E => Zw E lt b c ms rd m P) (W1 := fun E (a : Int × Bd × Bd × PL) => Zw E a.2.1 a.2.2.1 c ms rd m a.2.2.2) (rw := fun E a => some (vI a.1)) (by decide) rfl (fun E => Zw_d E lt b c ms rd m P) (fun E => by simp [lg_sl, z_cat, z_catR, z_catI, z_catL]) (fun K X => r_lv (by simp [lv_args, z_cat, z_catR, z_catI, z_catL]) (t_X5_base N lt b c ms rd m P x1 x2 K X)) l D E a ha
abbrev Q_X5_make (K : KT) (lt b c ms rd m : Bd) (P : PL) : (Int × Bd × Bd × PL) → State → Prop := Qm K ({ frames := 5, cells := 2, slots := 122, locals := 118 } : Room) (fun a : Int × Bd × Bd × PL => Zw (kE K) a.2.1 a.2.2.1 c ms rd m a.2.2.2) (fun a => some (vI a.1))
set_option maxRecDepth 100000 in
set_option maxHeartbeats 4000000 in
theorem t_X5_make (N : Nat) (lt b c ms rd m : Bd) (P : PL) (x1 x2 x3 x4 : Int) (K : KT) (X : Kok K cX5_make yX5_make.cls lw_g ({ frames := 5, cells := 2, slots := 122, locals := 118 } : Room) (some .int) 9) : Rn K (Q_X5_make K lt b c ms rd m P) 0 0 (f_X5_make N lt b P x1 x2 x3 x4) 0 [(0, .ref (kB K + 0)), (1, vI x1), (2, vI x2), (3, vI x3), (4, vI x4)] [] (Zw (kE K) lt b c ms rd m P) := by
  unfold f_X5_make
  refine r_aload_n (pc := 0) X 0 dX5_make_0 rfl rfl ?_
  refine r_iload_n (pc := 1) X 2 dX5_make_1 rfl rfl ?_
  refine r_callV (pc := 2) (q0 := 0) (ci := 5) (As := [vI x2]) (rest := []) (W' := fun q2_1 => (Zw (kE K) lt b c ms rd m P)) (rv := fun q2_1 => some (vG (kB K) q2_1)) X dX5_make_2 rfl (fun a ha => c_X5_graphOf N lt b c ms rd m P x2 K.1.2.1 K.2.2.1.1 (kE K) a ha) (fun a => Zw_d _ _ _ _ _ _ _ _) gd_X5_92 rfl (n := 1) (by decide) rfl (by decide) rfl rfl rfl (Nat.zero_le _) (fun q2_1 eq2_1 => ?_)
  show Rn K _ 0 0 _ 5 [(0, .ref (kB K + 0)), (1, vI x1), (2, vI x2), (3, vI x3), (4, vI x4)] [vG (kB K) q2_1] (Zw (kE K) lt b c ms rd m P)
  refine r_gstore (pc := 5) (lv' := [(0, .ref (kB K + 0)), (1, vI x1), (2, vI x2), (3, vI x3), (4, vI x4), (5, vG (kB K) q2_1)]) X [1, 2, 3, 4, 5, 0] dX5_make_5 (by decide) rfl ?_
  refine r_aload_n (pc := 7) X 0 dX5_make_7 rfl rfl ?_
  refine r_iload_n (pc := 8) X 3 dX5_make_8 rfl rfl ?_
  refine r_callV (pc := 9) (q0 := 0) (ci := 5) (As := [vI x3]) (rest := []) (W' := fun q9_2 => (Zw (kE K) lt b c ms rd m P)) (rv := fun q9_2 => some (vG (kB K) q9_2)) X dX5_make_9 rfl (fun a ha => c_X5_graphOf N lt b c ms rd m P x3 K.1.2.1 K.2.2.1.1 (kE K) a ha) (fun a => Zw_d _ _ _ _ _ _ _ _) gd_X5_92 rfl (n := 1) (by decide) rfl (by decide) rfl rfl rfl (Nat.zero_le _) (fun q9_2 eq9_2 => ?_)
  show Rn K _ 0 0 _ 12 [(0, .ref (kB K + 0)), (1, vI x1), (2, vI x2), (3, vI x3), (4, vI x4), (5, vG (kB K) q2_1)] [vG (kB K) q9_2] (Zw (kE K) lt b c ms rd m P)
  refine r_gstore (pc := 12) (i := 6) (lv' := [(0, .ref (kB K + 0)), (1, vI x1), (2, vI x2), (3, vI x3), (4, vI x4), (5, vG (kB K) q2_1), (6, vG (kB K) q9_2)]) X [1, 2, 3, 4, 5, 6, 0] dX5_make_12 (by decide) (by simp [lv_pick, z_cat]) ?_
  refine r_iload_n (pc := 14) X 1 dX5_make_14 rfl rfl ?_
  refine r_iconst (pc := 15) X 4 dX5_make_15 (by decide) ?_
  refine r_jn (J := fun j43 => Rn K (Q_X5_make K lt b c ms rd m P) 0 0 j43 43 [(0, .ref (kB K + 0))] [] (Zw (kE K) lt b c ms rd m P)) ?_ (fun j43 hj43 => ?_)
  · skip
    refine r_aload_n (pc := 43) X 0 dX5_make_43 rfl rfl ?_
    refine r_callV (pc := 44) (q0 := 0) (ci := 5) (As := []) (rest := []) (W' := fun q44_3 => (Zw (kE K) q44_3.2 b c ms rd m P)) (rv := fun q44_3 => some (vI q44_3.1)) X dX5_make_44 rfl (fun a ha => c_X5_refuseBad N lt b c ms rd m P K.1.2.1 K.2.2.1.1 (kE K) a ha) (fun a => Zw_d _ _ _ _ _ _ _ _) gd_X5_53 rfl (n := 0) (by decide) rfl (by decide) rfl rfl rfl (Nat.zero_le _) (fun q44_3 eq44_3 => ?_)
    show Rn K _ 0 0 _ 47 [(0, .ref (kB K + 0))] [vI q44_3.1] (Zw (kE K) q44_3.2 b c ms rd m P)
    exact r_iret (pc := 47) X rfl rfl (by decide) dX5_make_47
  refine r_ck1 (fun h4 => ?_)
  refine r_icmp_lt (pc := 16) X h4 (by decide) dX5_make_16 (tgt := 43) (by decide) (fun h5 => ?_) (fun h5 => ?_)
  · refine r_sub [0] rfl ?_
    exact hj43
  · refine r_iload_n (pc := 19) X 1 dX5_make_19 rfl rfl ?_
    refine r_bipush (pc := 20) X 6 dX5_make_20 (by decide) ?_
    refine r_icmp_gt (pc := 22) X h4 (by decide) dX5_make_22 (tgt := 43) (by decide) (fun h6 => ?_) (fun h6 => ?_)
    · refine r_sub [0] rfl ?_
      exact hj43
    · refine r_gload (pc := 25) X 5 dX5_make_25 rfl ?_
      refine r_ifnull (pc := 27) X dX5_make_27 (tgt := 43) (by decide) (fun h7 => ?_) (fun h7 => ?_)
      · refine r_sub [0] rfl ?_
        exact hj43
      · refine r_gload (pc := 30) X 6 dX5_make_30 rfl ?_
        refine r_ifnull (pc := 32) X dX5_make_32 (tgt := 43) (by decide) (fun h8 => ?_) (fun h8 => ?_)
        · refine r_sub [0] rfl ?_
          exact hj43
        · refine r_iload (pc := 35) X 4 dX5_make_35 rfl ?_
          refine r_callS (pc := 37) (As := [vI x4]) (rest := []) (W' := fun q37_9 => (Zw (kE K) lt b c ms rd m P)) (rv := fun q37_9 => some (vI q37_9)) X dX5_make_37 rfl (fun a ha => c_X5_isName N lt b c ms rd m P x4 K.1.2.1 K.2.2.1.1 (kE K) a ha) (fun a => Zw_d _ _ _ _ _ _ _ _) gd_X5_154 rfl (n := 1) (by decide) rfl (by decide) (Nat.zero_le _) (fun q37_9 eq37_9 => ?_)
          show Rn K _ 0 0 _ 40 [(0, .ref (kB K + 0)), (1, vI x1), (2, vI x2), (3, vI x3), (4, vI x4), (5, vG (kB K) q2_1), (6, vG (kB K) q9_2)] [vI q37_9] (Zw (kE K) lt b c ms rd m P)
          refine r_ck1 (fun h10 => ?_)
          refine r_ifne (pc := 40) X h10 dX5_make_40 (tgt := 48) (by decide) (fun h11 => ?_) (fun h11 => ?_)
          · refine r_aload_n (pc := 48) X 0 dX5_make_48 rfl rfl ?_
            refine r_get (pc := 49) (v := .ref (kB K + 5)) X 0 11 inX5 rfl rfl (by decide) tf_X5_28 rfl dX5_make_49 ?_
            refine r_callV (pc := 52) (q0 := 5) (ci := 0) (As := []) (rest := []) (W' := fun q52_12 => (Zw (kE K) lt q52_12 c ms rd m P)) (rv := fun q52_12 => none) X dX5_make_52 rfl (fun a ha => c_X0_start N lt b c ms rd m P K.1.2.1 K.2.2.1.1 (kE K) a ha) (fun a => Zw_d _ _ _ _ _ _ _ _) gd_X5_158 rfl (n := 0) (by decide) rfl (by decide) rfl rfl rfl (Nat.zero_le _) (fun q52_12 eq52_12 => ?_)
            show Rn K _ 0 0 _ 55 [(0, .ref (kB K + 0)), (1, vI x1), (2, vI x2), (3, vI x3), (4, vI x4), (5, vG (kB K) q2_1), (6, vG (kB K) q9_2)] [] (Zw (kE K) lt q52_12 c ms rd m P)
            refine r_aload_n (pc := 55) X 0 dX5_make_55 rfl rfl ?_
            refine r_get (pc := 56) (v := .ref (kB K + 5)) X 0 11 inX5 rfl rfl (by decide) tf_X5_28 rfl dX5_make_56 ?_
            refine r_gload (pc := 59) X 5 dX5_make_59 rfl ?_
            refine r_callV (pc := 61) (q0 := 5) (ci := 0) (As := [vG (kB K) q2_1]) (rest := []) (W' := fun q61_13 => (Zw (kE K) lt q61_13.2 c ms rd m P)) (rv := fun q61_13 => some (vI q61_13.1)) X dX5_make_61 rfl (fun a ha => c_X0_putAll N lt q52_12 c ms rd m P q2_1 K.1.2.1 K.2.2.1.1 (kE K) a ha) (fun a => Zw_d _ _ _ _ _ _ _ _) gd_X5_169 rfl (n := 1) (by decide) rfl (by decide) rfl rfl rfl (Nat.zero_le _) (fun q61_13 eq61_13 => ?_)
            show Rn K _ 0 0 _ 64 [(0, .ref (kB K + 0)), (1, vI x1), (2, vI x2), (3, vI x3), (4, vI x4), (5, vG (kB K) q2_1), (6, vG (kB K) q9_2)] [vI q61_13.1] (Zw (kE K) lt q61_13.2 c ms rd m P)
            refine r_istore (pc := 64) (i := 7) (lv' := [(0, .ref (kB K + 0)), (1, vI x1), (2, vI x2), (3, vI x3), (4, vI x4), (5, vG (kB K) q2_1), (6, vG (kB K) q9_2), (7, vI q61_13.1)]) X [1, 2, 3, 4, 5, 6, 7, 0] dX5_make_64 (by decide) (by simp [lv_pick, z_cat]) ?_
            refine r_aload_n (pc := 66) X 0 dX5_make_66 rfl rfl ?_
            refine r_get (pc := 67) (v := .ref (kB K + 5)) X 0 11 inX5 rfl rfl (by decide) tf_X5_28 rfl dX5_make_67 ?_
            refine r_gload (pc := 70) X 6 dX5_make_70 rfl ?_
            refine r_callV (pc := 72) (q0 := 5) (ci := 0) (As := [vG (kB K) q9_2]) (rest := []) (W' := fun q72_14 => (Zw (kE K) lt q72_14.2 c ms rd m P)) (rv := fun q72_14 => some (vI q72_14.1)) X dX5_make_72 rfl (fun a ha => c_X0_putAll N lt q61_13.2 c ms rd m P q9_2 K.1.2.1 K.2.2.1.1 (kE K) a ha) (fun a => Zw_d _ _ _ _ _ _ _ _) gd_X5_169 rfl (n := 1) (by decide) rfl (by decide) rfl rfl rfl (Nat.zero_le _) (fun q72_14 eq72_14 => ?_)
            show Rn K _ 0 0 _ 75 [(0, .ref (kB K + 0)), (1, vI x1), (2, vI x2), (3, vI x3), (4, vI x4), (5, vG (kB K) q2_1), (6, vG (kB K) q9_2), (7, vI q61_13.1)] [vI q72_14.1] (Zw (kE K) lt q72_14.2 c ms rd m P)
            refine r_istore (pc := 75) (lv' := [(0, .ref (kB K + 0)), (1, vI x1), (2, vI x2), (3, vI x3), (4, vI x4), (5, vG (kB K) q2_1), (6, vG (kB K) q9_2), (7, vI q61_13.1), (8, vI q72_14.1)]) X [1, 2, 3, 4, 5, 6, 7, 8, 0] dX5_make_75 (by decide) rfl ?_
            refine r_aload_n (pc := 77) X 0 dX5_make_77 rfl rfl ?_
            refine r_iload (pc := 78) X 4 dX5_make_78 rfl ?_
            refine r_aload_n (pc := 80) X 0 dX5_make_80 rfl rfl ?_
            refine r_get (pc := 81) (v := .ref (kB K + 5)) X 0 11 inX5 rfl rfl (by decide) tf_X5_28 rfl dX5_make_81 ?_
            refine r_aload_n (pc := 84) X 0 dX5_make_84 rfl rfl ?_
            refine r_get (pc := 85) (v := .ref (kB K + 5)) X 0 11 inX5 rfl rfl (by decide) tf_X5_28 rfl dX5_make_85 ?_
            refine r_iload_n (pc := 88) X 1 dX5_make_88 rfl rfl ?_
            refine r_iload (pc := 89) X 7 dX5_make_89 rfl ?_
            refine r_iload (pc := 91) X 8 dX5_make_91 rfl ?_
            refine r_callV (pc := 93) (q0 := 5) (ci := 0) (As := [vI x1, vI q61_13.1, vI q72_14.1]) (rest := [.ref (kB K + 5), vI x4, .ref (kB K + 0)]) (W' := fun q93_15 => (Zw (kE K) lt q93_15.2 c ms rd m P)) (rv := fun q93_15 => some (vI q93_15.1)) X dX5_make_93 rfl (fun a ha => c_X0_put N lt q72_14.2 c ms rd m P x1 q61_13.1 q72_14.1 K.1.2.1 K.2.2.1.1 (kE K) a ha) (fun a => Zw_d _ _ _ _ _ _ _ _) gd_X5_161 rfl (n := 3) (by decide) rfl (by decide) rfl rfl rfl (by simp [z_cat, z_catR, z_catI, z_catL]) (fun q93_15 eq93_15 => ?_)
            show Rn K _ 0 0 _ 96 [(0, .ref (kB K + 0)), (1, vI x1), (2, vI x2), (3, vI x3), (4, vI x4), (5, vG (kB K) q2_1), (6, vG (kB K) q9_2), (7, vI q61_13.1), (8, vI q72_14.1)] [vI q93_15.1, .ref (kB K + 5), vI x4, .ref (kB K + 0)] (Zw (kE K) lt q93_15.2 c ms rd m P)
            refine r_callV (pc := 96) (q0 := 5) (ci := 0) (As := [vI q93_15.1]) (rest := [vI x4, .ref (kB K + 0)]) (W' := fun q96_16 => (Zw (kE K) lt q96_16.2.1 c ms rd m q96_16.2.2)) (rv := fun q96_16 => some (vG (kB K) q96_16.1)) X dX5_make_96 rfl (fun a ha => c_X0_smallest N lt q93_15.2 c ms rd m P q93_15.1 K.1.2.1 K.2.2.1.1 (kE K) a ha) (fun a => Zw_d _ _ _ _ _ _ _ _) gd_X5_79 rfl (n := 1) (by decide) rfl (by decide) rfl rfl rfl (by simp [z_cat, z_catR, z_catI, z_catL]) (fun q96_16 eq96_16 => ?_)
            show Rn K _ 2 122 _ 99 [(0, .ref (kB K + 0)), (1, vI x1), (2, vI x2), (3, vI x3), (4, vI x4), (5, vG (kB K) q2_1), (6, vG (kB K) q9_2), (7, vI q61_13.1), (8, vI q72_14.1)] [vG (kB K) q96_16.1, vI x4, .ref (kB K + 0)] (Zw (kE K) lt q96_16.2.1 c ms rd m q96_16.2.2)
            refine r_callV (pc := 99) (q0 := 0) (ci := 5) (As := [vI x4, vG (kB K) q96_16.1]) (rest := []) (W' := fun q99_17 => (Zw (kE K) q99_17.2 q96_16.2.1 c ms rd m q96_16.2.2)) (rv := fun q99_17 => some (vI q99_17.1)) X dX5_make_99 rfl (fun a ha => c_X5_give N lt q96_16.2.1 c ms rd m q96_16.2.2 x4 q96_16.1 K.1.2.1 K.2.2.1.1 (kE K) a ha) (fun a => Zw_d _ _ _ _ _ _ _ _) gd_X5_165 rfl (n := 2) (by decide) rfl (by decide) rfl rfl rfl (Nat.zero_le _) (fun q99_17 eq99_17 => ?_)
            show Rn K _ 2 122 _ 102 [(0, .ref (kB K + 0)), (1, vI x1), (2, vI x2), (3, vI x3), (4, vI x4), (5, vG (kB K) q2_1), (6, vG (kB K) q9_2), (7, vI q61_13.1), (8, vI q72_14.1)] [vI q99_17.1] (Zw (kE K) q99_17.2 q96_16.2.1 c ms rd m q96_16.2.2)
            exact r_iret (pc := 102) X rfl rfl (by decide) dX5_make_102
          · refine r_sub [0] rfl ?_
            exact hj43
theorem c_X5_make (N : Nat) (lt b c ms rd m : Bd) (P : PL) (x1 x2 x3 x4 : Int) (l : Launch) (D : va_G) (E : ET) (a : Int × Bd × Bd × PL) (ha : f_X5_make N lt b P x1 x2 x3 x4 = some a) : Ct l yX5_make (Cond.code yX5_make cX5_make 9 (some .int) :: lw_g) ({ frames := 5, cells := 2, slots := 122, locals := 118 } : Room) D E [.ref (E.2.2.2 + 0), vI x1, vI x2, vI x3, vI x4] (Zw E lt b c ms rd m P) (Zw E a.2.1 a.2.2.1 c ms rd m a.2.2.2) (some (vI a.1)) :=
  ct_of (av := fun E => [.ref (E.2.2.2 + 0), vI x1, vI x2, vI x3, vI x4]) (W0 := fun E => Zw E lt b c ms rd m P) (W1 := fun E (a : Int × Bd × Bd × PL) => Zw E a.2.1 a.2.2.1 c ms rd m a.2.2.2) (rw := fun E a => some (vI a.1)) (by decide) rfl (fun E => Zw_d E lt b c ms rd m P) (fun E => by simp [lg_sl, z_cat, z_catR, z_catI, z_catL]) (fun K X => r_lv (by simp [lv_args, z_cat, z_catR, z_catI, z_catL]) (t_X5_make N lt b c ms rd m P x1 x2 x3 x4 K X)) l D E a ha
abbrev Q_X5_refuseNo (K : KT) (lt b c ms rd m : Bd) (P : PL) : (Int × Bd) → State → Prop := Qm K ({ frames := 0, cells := 0, slots := 0, locals := 0 } : Room) (fun a : Int × Bd => Zw (kE K) a.2 b c ms rd m P) (fun a => some (vI a.1))
set_option maxRecDepth 100000 in
set_option maxHeartbeats 4000000 in
theorem t_X5_refuseNo (N : Nat) (lt b c ms rd m : Bd) (P : PL) (K : KT) (X : Kok K cX5_refuseNo yX5_refuseNo.cls lw_g ({ frames := 0, cells := 0, slots := 0, locals := 0 } : Room) (some .int) 1) : Rn K (Q_X5_refuseNo K lt b c ms rd m P) 0 0 (f_X5_refuseNo lt) 0 [(0, .ref (kB K + 0))] [] (Zw (kE K) lt b c ms rd m P) := by
  unfold f_X5_refuseNo
  refine r_aload_n (pc := 0) X 0 dX5_refuseNo_0 rfl rfl ?_
  refine r_dup (pc := 1) X dX5_refuseNo_1 rfl ?_
  refine r_get (pc := 2) (v := vI (lt 9 0)) X 0 9 inX5 rfl rfl (by decide) tf_X5_217 rfl dX5_refuseNo_2 ?_
  refine r_iconst (pc := 5) X 1 dX5_refuseNo_5 (by decide) ?_
  refine r_iadd (pc := 6) X dX5_refuseNo_6 ?_
  refine r_put (pc := 7) (ws' := (Zw (kE K) (bs0 lt 9 ((lt 9 0) + 1)) b c ms rd m P)) X 0 9 inX5 tyX5 tyX5_ok nmX5 rfl rfl (by decide) tf_X5_217 rfl (tyX5_ok 9 (by decide)) rfl rfl (Nat.le_of_ble_eq_true rfl) rfl dX5_refuseNo_7 ?_
  refine r_bipush (pc := 10) X (-3) dX5_refuseNo_10 (by decide) ?_
  exact r_iret (pc := 12) X rfl rfl (by decide) dX5_refuseNo_12
theorem c_X5_refuseNo (N : Nat) (lt b c ms rd m : Bd) (P : PL) (l : Launch) (D : va_G) (E : ET) (a : Int × Bd) (ha : f_X5_refuseNo lt = some a) : Ct l yX5_refuseNo (Cond.code yX5_refuseNo cX5_refuseNo 1 (some .int) :: lw_g) ({ frames := 0, cells := 0, slots := 0, locals := 0 } : Room) D E [.ref (E.2.2.2 + 0)] (Zw E lt b c ms rd m P) (Zw E a.2 b c ms rd m P) (some (vI a.1)) :=
  ct_of (av := fun E => [.ref (E.2.2.2 + 0)]) (W0 := fun E => Zw E lt b c ms rd m P) (W1 := fun E (a : Int × Bd) => Zw E a.2 b c ms rd m P) (rw := fun E a => some (vI a.1)) (by decide) rfl (fun E => Zw_d E lt b c ms rd m P) (fun E => by simp [lg_sl, z_cat, z_catR, z_catI, z_catL]) (fun K X => r_lv (by simp [lv_args, z_cat, z_catR, z_catI, z_catL]) (t_X5_refuseNo N lt b c ms rd m P  K X)) l D E a ha
abbrev Q_X5_part (K : KT) (lt b c ms rd m : Bd) (P : PL) : (Int × Bd × Bd × PL) → State → Prop := Qm K ({ frames := 5, cells := 2, slots := 122, locals := 118 } : Room) (fun a : Int × Bd × Bd × PL => Zw (kE K) a.2.1 a.2.2.1 c ms rd m a.2.2.2) (fun a => some (vI a.1))
set_option maxRecDepth 100000 in
set_option maxHeartbeats 4000000 in
theorem t_X5_part (N : Nat) (lt b c ms rd m : Bd) (P : PL) (x1 x2 x3 : Int) (K : KT) (X : Kok K cX5_part yX5_part.cls lw_g ({ frames := 5, cells := 2, slots := 122, locals := 118 } : Room) (some .int) 5) : Rn K (Q_X5_part K lt b c ms rd m P) 0 0 (f_X5_part N lt b P x1 x2 x3) 0 [(0, .ref (kB K + 0)), (1, vI x1), (2, vI x2), (3, vI x3)] [] (Zw (kE K) lt b c ms rd m P) := by
  unfold f_X5_part
  refine r_aload_n (pc := 0) X 0 dX5_part_0 rfl rfl ?_
  refine r_iload_n (pc := 1) X 1 dX5_part_1 rfl rfl ?_
  refine r_callV (pc := 2) (q0 := 0) (ci := 5) (As := [vI x1]) (rest := []) (W' := fun q2_1 => (Zw (kE K) lt b c ms rd m P)) (rv := fun q2_1 => some (vG (kB K) q2_1)) X dX5_part_2 rfl (fun a ha => c_X5_graphOf N lt b c ms rd m P x1 K.1.2.1 K.2.2.1.1 (kE K) a ha) (fun a => Zw_d _ _ _ _ _ _ _ _) gd_X5_92 rfl (n := 1) (by decide) rfl (by decide) rfl rfl rfl (Nat.zero_le _) (fun q2_1 eq2_1 => ?_)
  show Rn K _ 0 0 _ 5 [(0, .ref (kB K + 0)), (1, vI x1), (2, vI x2), (3, vI x3)] [vG (kB K) q2_1] (Zw (kE K) lt b c ms rd m P)
  refine r_gstore (pc := 5) (lv' := [(0, .ref (kB K + 0)), (1, vI x1), (2, vI x2), (3, vI x3), (4, vG (kB K) q2_1)]) X [1, 2, 3, 4, 0] dX5_part_5 (by decide) rfl ?_
  refine r_gload (pc := 7) X 4 dX5_part_7 rfl ?_
  refine r_jn (J := fun j28 => Rn K (Q_X5_part K lt b c ms rd m P) 0 0 j28 28 [(0, .ref (kB K + 0))] [] (Zw (kE K) lt b c ms rd m P)) ?_ (fun j28 hj28 => ?_)
  · skip
    refine r_aload_n (pc := 28) X 0 dX5_part_28 rfl rfl ?_
    refine r_callV (pc := 29) (q0 := 0) (ci := 5) (As := []) (rest := []) (W' := fun q29_2 => (Zw (kE K) q29_2.2 b c ms rd m P)) (rv := fun q29_2 => some (vI q29_2.1)) X dX5_part_29 rfl (fun a ha => c_X5_refuseBad N lt b c ms rd m P K.1.2.1 K.2.2.1.1 (kE K) a ha) (fun a => Zw_d _ _ _ _ _ _ _ _) gd_X5_53 rfl (n := 0) (by decide) rfl (by decide) rfl rfl rfl (Nat.zero_le _) (fun q29_2 eq29_2 => ?_)
    show Rn K _ 0 0 _ 32 [(0, .ref (kB K + 0))] [vI q29_2.1] (Zw (kE K) q29_2.2 b c ms rd m P)
    exact r_iret (pc := 32) X rfl rfl (by decide) dX5_part_32
  refine r_ifnull (pc := 9) X dX5_part_9 (tgt := 28) (by decide) (fun h3 => ?_) (fun h3 => ?_)
  · refine r_sub [0] rfl ?_
    exact hj28
  · refine r_iload_n (pc := 12) X 2 dX5_part_12 rfl rfl ?_
    refine r_ck1 (fun h4 => ?_)
    refine r_iflt (pc := 13) X h4 dX5_part_13 (tgt := 28) (by decide) (fun h5 => ?_) (fun h5 => ?_)
    · refine r_sub [0] rfl ?_
      exact hj28
    · refine r_iload_n (pc := 16) X 2 dX5_part_16 rfl rfl ?_
      refine r_iconst (pc := 17) X 1 dX5_part_17 (by decide) ?_
      refine r_icmp_gt (pc := 18) X h4 (by decide) dX5_part_18 (tgt := 28) (by decide) (fun h6 => ?_) (fun h6 => ?_)
      · refine r_sub [0] rfl ?_
        exact hj28
      · refine r_iload_n (pc := 21) X 3 dX5_part_21 rfl rfl ?_
        refine r_callS (pc := 22) (As := [vI x3]) (rest := []) (W' := fun q22_7 => (Zw (kE K) lt b c ms rd m P)) (rv := fun q22_7 => some (vI q22_7)) X dX5_part_22 rfl (fun a ha => c_X5_isName N lt b c ms rd m P x3 K.1.2.1 K.2.2.1.1 (kE K) a ha) (fun a => Zw_d _ _ _ _ _ _ _ _) gd_X5_154 rfl (n := 1) (by decide) rfl (by decide) (Nat.zero_le _) (fun q22_7 eq22_7 => ?_)
        show Rn K _ 0 0 _ 25 [(0, .ref (kB K + 0)), (1, vI x1), (2, vI x2), (3, vI x3), (4, vG (kB K) q2_1)] [vI q22_7] (Zw (kE K) lt b c ms rd m P)
        refine r_ck1 (fun h8 => ?_)
        refine r_ifne (pc := 25) X h8 dX5_part_25 (tgt := 33) (by decide) (fun h9 => ?_) (fun h9 => ?_)
        · refine r_iload_n (pc := 33) X 2 dX5_part_33 rfl rfl ?_
          refine r_gload (pc := 34) X 4 dX5_part_34 rfl ?_
          refine r_iconst (pc := 36) X 0 dX5_part_36 (by decide) ?_
          refine r_ckG (fun h10 => ?_)
          refine r_rf1 h10.1 ?_
          refine r_callV (pc := 37) (q0 := (62 + 2 * (q2_1).toNat)) (ci := 2) (As := [vI 0]) (rest := [vI x2]) (W' := fun q37_11 => (Zw (kE K) lt b c ms rd m P)) (rv := fun q37_11 => some (vI q37_11)) X dX5_part_37 rfl (fun a ha => c_X2_partCount N lt b c ms rd m P q2_1 h10 0 K.1.2.1 K.2.2.1.1 (kE K) a ha) (fun a => Zw_d _ _ _ _ _ _ _ _) gd_X5_172 rfl (n := 1) (by decide) rfl (by decide) rfl rfl (zg_gobj h10) (by simp [z_cat, z_catR, z_catI, z_catL]) (fun q37_11 eq37_11 => ?_)
          show Rn K _ 0 0 _ 40 [(0, .ref (kB K + 0)), (1, vI x1), (2, vI x2), (3, vI x3), (4, vG (kB K) q2_1)] [vI q37_11, vI x2] (Zw (kE K) lt b c ms rd m P)
          refine r_ck1 (fun h12 => ?_)
          refine r_icmp_lt (pc := 40) X h4 h12 dX5_part_40 (tgt := 48) (by decide) (fun h13 => ?_) (fun h13 => ?_)
          · refine r_aload_n (pc := 48) X 0 dX5_part_48 rfl rfl ?_
            refine r_get (pc := 49) (v := .ref (kB K + 5)) X 0 11 inX5 rfl rfl (by decide) tf_X5_28 rfl dX5_part_49 ?_
            refine r_callV (pc := 52) (q0 := 5) (ci := 0) (As := []) (rest := []) (W' := fun q52_14 => (Zw (kE K) lt q52_14 c ms rd m P)) (rv := fun q52_14 => none) X dX5_part_52 rfl (fun a ha => c_X0_start N lt b c ms rd m P K.1.2.1 K.2.2.1.1 (kE K) a ha) (fun a => Zw_d _ _ _ _ _ _ _ _) gd_X5_158 rfl (n := 0) (by decide) rfl (by decide) rfl rfl rfl (Nat.zero_le _) (fun q52_14 eq52_14 => ?_)
            show Rn K _ 0 0 _ 55 [(0, .ref (kB K + 0)), (1, vI x1), (2, vI x2), (3, vI x3), (4, vG (kB K) q2_1)] [] (Zw (kE K) lt q52_14 c ms rd m P)
            refine r_aload_n (pc := 55) X 0 dX5_part_55 rfl rfl ?_
            refine r_get (pc := 56) (v := .ref (kB K + 5)) X 0 11 inX5 rfl rfl (by decide) tf_X5_28 rfl dX5_part_56 ?_
            refine r_gload (pc := 59) X 4 dX5_part_59 rfl ?_
            refine r_callV (pc := 61) (q0 := 5) (ci := 0) (As := [vG (kB K) q2_1]) (rest := []) (W' := fun q61_15 => (Zw (kE K) lt q61_15.2 c ms rd m P)) (rv := fun q61_15 => some (vI q61_15.1)) X dX5_part_61 rfl (fun a ha => c_X0_putAll N lt q52_14 c ms rd m P q2_1 K.1.2.1 K.2.2.1.1 (kE K) a ha) (fun a => Zw_d _ _ _ _ _ _ _ _) gd_X5_169 rfl (n := 1) (by decide) rfl (by decide) rfl rfl rfl (Nat.zero_le _) (fun q61_15 eq61_15 => ?_)
            show Rn K _ 0 0 _ 64 [(0, .ref (kB K + 0)), (1, vI x1), (2, vI x2), (3, vI x3), (4, vG (kB K) q2_1)] [vI q61_15.1] (Zw (kE K) lt q61_15.2 c ms rd m P)
            refine r_pop (pc := 64) X dX5_part_64 rfl ?_
            refine r_aload_n (pc := 65) X 0 dX5_part_65 rfl rfl ?_
            refine r_iload_n (pc := 66) X 3 dX5_part_66 rfl rfl ?_
            refine r_aload_n (pc := 67) X 0 dX5_part_67 rfl rfl ?_
            refine r_get (pc := 68) (v := .ref (kB K + 5)) X 0 11 inX5 rfl rfl (by decide) tf_X5_28 rfl dX5_part_68 ?_
            refine r_gload (pc := 71) X 4 dX5_part_71 rfl ?_
            refine r_iconst (pc := 73) X 0 dX5_part_73 (by decide) ?_
            refine r_iload_n (pc := 74) X 2 dX5_part_74 rfl rfl ?_
            refine r_rf2 h10.1 ?_
            refine r_callV (pc := 75) (q0 := (62 + 2 * (q2_1).toNat)) (ci := 2) (As := [vI 0, vI x2]) (rest := [.ref (kB K + 5), vI x3, .ref (kB K + 0)]) (W' := fun q75_16 => (Zw (kE K) lt q61_15.2 c ms rd m P)) (rv := fun q75_16 => some (vI q75_16)) X dX5_part_75 rfl (fun a ha => c_X2_partAt N lt q61_15.2 c ms rd m P q2_1 h10 0 x2 K.1.2.1 K.2.2.1.1 (kE K) a ha) (fun a => Zw_d _ _ _ _ _ _ _ _) gd_X5_178 rfl (n := 2) (by decide) rfl (by decide) rfl rfl (zg_gobj h10) (by simp [z_cat, z_catR, z_catI, z_catL]) (fun q75_16 eq75_16 => ?_)
            show Rn K _ 0 0 _ 78 [(0, .ref (kB K + 0)), (1, vI x1), (2, vI x2), (3, vI x3), (4, vG (kB K) q2_1)] [vI q75_16, .ref (kB K + 5), vI x3, .ref (kB K + 0)] (Zw (kE K) lt q61_15.2 c ms rd m P)
            refine r_callV (pc := 78) (q0 := 5) (ci := 0) (As := [vI q75_16]) (rest := [vI x3, .ref (kB K + 0)]) (W' := fun q78_17 => (Zw (kE K) lt q78_17.2.1 c ms rd m q78_17.2.2)) (rv := fun q78_17 => some (vG (kB K) q78_17.1)) X dX5_part_78 rfl (fun a ha => c_X0_smallest N lt q61_15.2 c ms rd m P q75_16 K.1.2.1 K.2.2.1.1 (kE K) a ha) (fun a => Zw_d _ _ _ _ _ _ _ _) gd_X5_79 rfl (n := 1) (by decide) rfl (by decide) rfl rfl rfl (by simp [z_cat, z_catR, z_catI, z_catL]) (fun q78_17 eq78_17 => ?_)
            show Rn K _ 2 122 _ 81 [(0, .ref (kB K + 0)), (1, vI x1), (2, vI x2), (3, vI x3), (4, vG (kB K) q2_1)] [vG (kB K) q78_17.1, vI x3, .ref (kB K + 0)] (Zw (kE K) lt q78_17.2.1 c ms rd m q78_17.2.2)
            refine r_callV (pc := 81) (q0 := 0) (ci := 5) (As := [vI x3, vG (kB K) q78_17.1]) (rest := []) (W' := fun q81_18 => (Zw (kE K) q81_18.2 q78_17.2.1 c ms rd m q78_17.2.2)) (rv := fun q81_18 => some (vI q81_18.1)) X dX5_part_81 rfl (fun a ha => c_X5_give N lt q78_17.2.1 c ms rd m q78_17.2.2 x3 q78_17.1 K.1.2.1 K.2.2.1.1 (kE K) a ha) (fun a => Zw_d _ _ _ _ _ _ _ _) gd_X5_165 rfl (n := 2) (by decide) rfl (by decide) rfl rfl rfl (Nat.zero_le _) (fun q81_18 eq81_18 => ?_)
            show Rn K _ 2 122 _ 84 [(0, .ref (kB K + 0)), (1, vI x1), (2, vI x2), (3, vI x3), (4, vG (kB K) q2_1)] [vI q81_18.1] (Zw (kE K) q81_18.2 q78_17.2.1 c ms rd m q78_17.2.2)
            exact r_iret (pc := 84) X rfl rfl (by decide) dX5_part_84
          · refine r_aload_n (pc := 43) X 0 dX5_part_43 rfl rfl ?_
            refine r_callV (pc := 44) (q0 := 0) (ci := 5) (As := []) (rest := []) (W' := fun q44_19 => (Zw (kE K) q44_19.2 b c ms rd m P)) (rv := fun q44_19 => some (vI q44_19.1)) X dX5_part_44 rfl (fun a ha => c_X5_refuseNo N lt b c ms rd m P K.1.2.1 K.2.2.1.1 (kE K) a ha) (fun a => Zw_d _ _ _ _ _ _ _ _) gd_X5_175 rfl (n := 0) (by decide) rfl (by decide) rfl rfl rfl (Nat.zero_le _) (fun q44_19 eq44_19 => ?_)
            show Rn K _ 0 0 _ 47 [(0, .ref (kB K + 0)), (1, vI x1), (2, vI x2), (3, vI x3), (4, vG (kB K) q2_1)] [vI q44_19.1] (Zw (kE K) q44_19.2 b c ms rd m P)
            exact r_iret (pc := 47) X rfl rfl (by decide) dX5_part_47
        · refine r_sub [0] rfl ?_
          exact hj28
theorem c_X5_part (N : Nat) (lt b c ms rd m : Bd) (P : PL) (x1 x2 x3 : Int) (l : Launch) (D : va_G) (E : ET) (a : Int × Bd × Bd × PL) (ha : f_X5_part N lt b P x1 x2 x3 = some a) : Ct l yX5_part (Cond.code yX5_part cX5_part 5 (some .int) :: lw_g) ({ frames := 5, cells := 2, slots := 122, locals := 118 } : Room) D E [.ref (E.2.2.2 + 0), vI x1, vI x2, vI x3] (Zw E lt b c ms rd m P) (Zw E a.2.1 a.2.2.1 c ms rd m a.2.2.2) (some (vI a.1)) :=
  ct_of (av := fun E => [.ref (E.2.2.2 + 0), vI x1, vI x2, vI x3]) (W0 := fun E => Zw E lt b c ms rd m P) (W1 := fun E (a : Int × Bd × Bd × PL) => Zw E a.2.1 a.2.2.1 c ms rd m a.2.2.2) (rw := fun E a => some (vI a.1)) (by decide) rfl (fun E => Zw_d E lt b c ms rd m P) (fun E => by simp [lg_sl, z_cat, z_catR, z_catI, z_catL]) (fun K X => r_lv (by simp [lv_args, z_cat, z_catR, z_catI, z_catL]) (t_X5_part N lt b c ms rd m P x1 x2 x3 K X)) l D E a ha
abbrev Q_X5_copy (K : KT) (lt b c ms rd m : Bd) (P : PL) : (Int × Bd) → State → Prop := Qm K ({ frames := 3, cells := 0, slots := 0, locals := 64 } : Room) (fun a : Int × Bd => Zw (kE K) a.2 b c ms rd m P) (fun a => some (vI a.1))
set_option maxRecDepth 100000 in
set_option maxHeartbeats 4000000 in
theorem t_X5_copy (N : Nat) (lt b c ms rd m : Bd) (P : PL) (x1 x2 : Int) (K : KT) (X : Kok K cX5_copy yX5_copy.cls lw_g ({ frames := 3, cells := 0, slots := 0, locals := 64 } : Room) (some .int) 4) : Rn K (Q_X5_copy K lt b c ms rd m P) 0 0 (f_X5_copy N lt P x1 x2) 0 [(0, .ref (kB K + 0)), (1, vI x1), (2, vI x2)] [] (Zw (kE K) lt b c ms rd m P) := by
  unfold f_X5_copy
  refine r_aload_n (pc := 0) X 0 dX5_copy_0 rfl rfl ?_
  refine r_iload_n (pc := 1) X 1 dX5_copy_1 rfl rfl ?_
  refine r_callV (pc := 2) (q0 := 0) (ci := 5) (As := [vI x1]) (rest := []) (W' := fun q2_1 => (Zw (kE K) lt b c ms rd m P)) (rv := fun q2_1 => some (vG (kB K) q2_1)) X dX5_copy_2 rfl (fun a ha => c_X5_graphOf N lt b c ms rd m P x1 K.1.2.1 K.2.2.1.1 (kE K) a ha) (fun a => Zw_d _ _ _ _ _ _ _ _) gd_X5_92 rfl (n := 1) (by decide) rfl (by decide) rfl rfl rfl (Nat.zero_le _) (fun q2_1 eq2_1 => ?_)
  show Rn K _ 0 0 _ 5 [(0, .ref (kB K + 0)), (1, vI x1), (2, vI x2)] [vG (kB K) q2_1] (Zw (kE K) lt b c ms rd m P)
  refine r_gstore_n (pc := 5) (lv' := [(0, .ref (kB K + 0)), (1, vI x1), (2, vI x2), (3, vG (kB K) q2_1)]) X [1, 2, 3, 0] dX5_copy_5 rfl (by decide) rfl ?_
  refine r_gload_n (pc := 6) X 3 dX5_copy_6 rfl rfl ?_
  refine r_jn (J := fun j17 => Rn K (Q_X5_copy K lt b c ms rd m P) 0 0 j17 17 [(0, .ref (kB K + 0))] [] (Zw (kE K) lt b c ms rd m P)) ?_ (fun j17 hj17 => ?_)
  · skip
    refine r_aload_n (pc := 17) X 0 dX5_copy_17 rfl rfl ?_
    refine r_callV (pc := 18) (q0 := 0) (ci := 5) (As := []) (rest := []) (W' := fun q18_2 => (Zw (kE K) q18_2.2 b c ms rd m P)) (rv := fun q18_2 => some (vI q18_2.1)) X dX5_copy_18 rfl (fun a ha => c_X5_refuseBad N lt b c ms rd m P K.1.2.1 K.2.2.1.1 (kE K) a ha) (fun a => Zw_d _ _ _ _ _ _ _ _) gd_X5_53 rfl (n := 0) (by decide) rfl (by decide) rfl rfl rfl (Nat.zero_le _) (fun q18_2 eq18_2 => ?_)
    show Rn K _ 0 0 _ 21 [(0, .ref (kB K + 0))] [vI q18_2.1] (Zw (kE K) q18_2.2 b c ms rd m P)
    exact r_iret (pc := 21) X rfl rfl (by decide) dX5_copy_21
  refine r_ifnull (pc := 7) X dX5_copy_7 (tgt := 17) (by decide) (fun h3 => ?_) (fun h3 => ?_)
  · refine r_sub [0] rfl ?_
    exact hj17
  · refine r_iload_n (pc := 10) X 2 dX5_copy_10 rfl rfl ?_
    refine r_callS (pc := 11) (As := [vI x2]) (rest := []) (W' := fun q11_4 => (Zw (kE K) lt b c ms rd m P)) (rv := fun q11_4 => some (vI q11_4)) X dX5_copy_11 rfl (fun a ha => c_X5_isName N lt b c ms rd m P x2 K.1.2.1 K.2.2.1.1 (kE K) a ha) (fun a => Zw_d _ _ _ _ _ _ _ _) gd_X5_154 rfl (n := 1) (by decide) rfl (by decide) (Nat.zero_le _) (fun q11_4 eq11_4 => ?_)
    show Rn K _ 0 0 _ 14 [(0, .ref (kB K + 0)), (1, vI x1), (2, vI x2), (3, vG (kB K) q2_1)] [vI q11_4] (Zw (kE K) lt b c ms rd m P)
    refine r_ck1 (fun h5 => ?_)
    refine r_ifne (pc := 14) X h5 dX5_copy_14 (tgt := 22) (by decide) (fun h6 => ?_) (fun h6 => ?_)
    · refine r_aload_n (pc := 22) X 0 dX5_copy_22 rfl rfl ?_
      refine r_iload_n (pc := 23) X 2 dX5_copy_23 rfl rfl ?_
      refine r_gload_n (pc := 24) X 3 dX5_copy_24 rfl rfl ?_
      refine r_callV (pc := 25) (q0 := 0) (ci := 5) (As := [vI x2, vG (kB K) q2_1]) (rest := []) (W' := fun q25_7 => (Zw (kE K) q25_7.2 b c ms rd m P)) (rv := fun q25_7 => some (vI q25_7.1)) X dX5_copy_25 rfl (fun a ha => c_X5_give N lt b c ms rd m P x2 q2_1 K.1.2.1 K.2.2.1.1 (kE K) a ha) (fun a => Zw_d _ _ _ _ _ _ _ _) gd_X5_165 rfl (n := 2) (by decide) rfl (by decide) rfl rfl rfl (Nat.zero_le _) (fun q25_7 eq25_7 => ?_)
      show Rn K _ 0 0 _ 28 [(0, .ref (kB K + 0)), (1, vI x1), (2, vI x2), (3, vG (kB K) q2_1)] [vI q25_7.1] (Zw (kE K) q25_7.2 b c ms rd m P)
      exact r_iret (pc := 28) X rfl rfl (by decide) dX5_copy_28
    · refine r_sub [0] rfl ?_
      exact hj17
theorem c_X5_copy (N : Nat) (lt b c ms rd m : Bd) (P : PL) (x1 x2 : Int) (l : Launch) (D : va_G) (E : ET) (a : Int × Bd) (ha : f_X5_copy N lt P x1 x2 = some a) : Ct l yX5_copy (Cond.code yX5_copy cX5_copy 4 (some .int) :: lw_g) ({ frames := 3, cells := 0, slots := 0, locals := 64 } : Room) D E [.ref (E.2.2.2 + 0), vI x1, vI x2] (Zw E lt b c ms rd m P) (Zw E a.2 b c ms rd m P) (some (vI a.1)) :=
  ct_of (av := fun E => [.ref (E.2.2.2 + 0), vI x1, vI x2]) (W0 := fun E => Zw E lt b c ms rd m P) (W1 := fun E (a : Int × Bd) => Zw E a.2 b c ms rd m P) (rw := fun E a => some (vI a.1)) (by decide) rfl (fun E => Zw_d E lt b c ms rd m P) (fun E => by simp [lg_sl, z_cat, z_catR, z_catI, z_catL]) (fun K X => r_lv (by simp [lv_args, z_cat, z_catR, z_catI, z_catL]) (t_X5_copy N lt b c ms rd m P x1 x2 K X)) l D E a ha
abbrev Q_X5_bound (K : KT) (lt b c ms rd m : Bd) (P : PL) : (Int × Bd × Bd × Bd × PL) → State → Prop := Qm K ({ frames := 6, cells := 2, slots := 122, locals := 153 } : Room) (fun a : Int × Bd × Bd × Bd × PL => Zw (kE K) a.2.1 a.2.2.1 a.2.2.2.1 ms rd m a.2.2.2.2) (fun a => some (vI a.1))
set_option maxRecDepth 100000 in
set_option maxHeartbeats 4000000 in
theorem t_X5_bound (N : Nat) (lt b c ms rd m : Bd) (P : PL) (x1 x2 x3 x4 : Int) (K : KT) (X : Kok K cX5_bound yX5_bound.cls lw_g ({ frames := 6, cells := 2, slots := 122, locals := 153 } : Room) (some .int) 7) : Rn K (Q_X5_bound K lt b c ms rd m P) 0 0 (f_X5_bound N lt b c P x1 x2 x3 x4) 0 [(0, .ref (kB K + 0)), (1, vI x1), (2, vI x2), (3, vI x3), (4, vI x4)] [] (Zw (kE K) lt b c ms rd m P) := by
  unfold f_X5_bound
  refine r_aload_n (pc := 0) X 0 dX5_bound_0 rfl rfl ?_
  refine r_iload_n (pc := 1) X 2 dX5_bound_1 rfl rfl ?_
  refine r_callV (pc := 2) (q0 := 0) (ci := 5) (As := [vI x2]) (rest := []) (W' := fun q2_1 => (Zw (kE K) lt b c ms rd m P)) (rv := fun q2_1 => some (vG (kB K) q2_1)) X dX5_bound_2 rfl (fun a ha => c_X5_graphOf N lt b c ms rd m P x2 K.1.2.1 K.2.2.1.1 (kE K) a ha) (fun a => Zw_d _ _ _ _ _ _ _ _) gd_X5_92 rfl (n := 1) (by decide) rfl (by decide) rfl rfl rfl (Nat.zero_le _) (fun q2_1 eq2_1 => ?_)
  show Rn K _ 0 0 _ 5 [(0, .ref (kB K + 0)), (1, vI x1), (2, vI x2), (3, vI x3), (4, vI x4)] [vG (kB K) q2_1] (Zw (kE K) lt b c ms rd m P)
  refine r_gstore (pc := 5) (lv' := [(0, .ref (kB K + 0)), (1, vI x1), (2, vI x2), (3, vI x3), (4, vI x4), (5, vG (kB K) q2_1)]) X [1, 2, 3, 4, 5, 0] dX5_bound_5 (by decide) rfl ?_
  refine r_aload_n (pc := 7) X 0 dX5_bound_7 rfl rfl ?_
  refine r_iload_n (pc := 8) X 3 dX5_bound_8 rfl rfl ?_
  refine r_callV (pc := 9) (q0 := 0) (ci := 5) (As := [vI x3]) (rest := []) (W' := fun q9_2 => (Zw (kE K) lt b c ms rd m P)) (rv := fun q9_2 => some (vG (kB K) q9_2)) X dX5_bound_9 rfl (fun a ha => c_X5_graphOf N lt b c ms rd m P x3 K.1.2.1 K.2.2.1.1 (kE K) a ha) (fun a => Zw_d _ _ _ _ _ _ _ _) gd_X5_92 rfl (n := 1) (by decide) rfl (by decide) rfl rfl rfl (Nat.zero_le _) (fun q9_2 eq9_2 => ?_)
  show Rn K _ 0 0 _ 12 [(0, .ref (kB K + 0)), (1, vI x1), (2, vI x2), (3, vI x3), (4, vI x4), (5, vG (kB K) q2_1)] [vG (kB K) q9_2] (Zw (kE K) lt b c ms rd m P)
  refine r_gstore (pc := 12) (i := 6) (lv' := [(0, .ref (kB K + 0)), (1, vI x1), (2, vI x2), (3, vI x3), (4, vI x4), (5, vG (kB K) q2_1), (6, vG (kB K) q9_2)]) X [1, 2, 3, 4, 5, 6, 0] dX5_bound_12 (by decide) (by simp [lv_pick, z_cat]) ?_
  refine r_iload_n (pc := 14) X 1 dX5_bound_14 rfl rfl ?_
  refine r_jn (J := fun j41 => Rn K (Q_X5_bound K lt b c ms rd m P) 0 0 j41 41 [(0, .ref (kB K + 0))] [] (Zw (kE K) lt b c ms rd m P)) ?_ (fun j41 hj41 => ?_)
  · skip
    refine r_aload_n (pc := 41) X 0 dX5_bound_41 rfl rfl ?_
    refine r_callV (pc := 42) (q0 := 0) (ci := 5) (As := []) (rest := []) (W' := fun q42_3 => (Zw (kE K) q42_3.2 b c ms rd m P)) (rv := fun q42_3 => some (vI q42_3.1)) X dX5_bound_42 rfl (fun a ha => c_X5_refuseBad N lt b c ms rd m P K.1.2.1 K.2.2.1.1 (kE K) a ha) (fun a => Zw_d _ _ _ _ _ _ _ _) gd_X5_53 rfl (n := 0) (by decide) rfl (by decide) rfl rfl rfl (Nat.zero_le _) (fun q42_3 eq42_3 => ?_)
    show Rn K _ 0 0 _ 45 [(0, .ref (kB K + 0))] [vI q42_3.1] (Zw (kE K) q42_3.2 b c ms rd m P)
    exact r_iret (pc := 45) X rfl rfl (by decide) dX5_bound_45
  refine r_ck1 (fun h4 => ?_)
  refine r_iflt (pc := 15) X h4 dX5_bound_15 (tgt := 41) (by decide) (fun h5 => ?_) (fun h5 => ?_)
  · refine r_sub [0] rfl ?_
    exact hj41
  · refine r_iload_n (pc := 18) X 1 dX5_bound_18 rfl rfl ?_
    refine r_iconst (pc := 19) X 1 dX5_bound_19 (by decide) ?_
    refine r_icmp_gt (pc := 20) X h4 (by decide) dX5_bound_20 (tgt := 41) (by decide) (fun h6 => ?_) (fun h6 => ?_)
    · refine r_sub [0] rfl ?_
      exact hj41
    · refine r_gload (pc := 23) X 5 dX5_bound_23 rfl ?_
      refine r_ifnull (pc := 25) X dX5_bound_25 (tgt := 41) (by decide) (fun h7 => ?_) (fun h7 => ?_)
      · refine r_sub [0] rfl ?_
        exact hj41
      · refine r_gload (pc := 28) X 6 dX5_bound_28 rfl ?_
        refine r_ifnull (pc := 30) X dX5_bound_30 (tgt := 41) (by decide) (fun h8 => ?_) (fun h8 => ?_)
        · refine r_sub [0] rfl ?_
          exact hj41
        · refine r_iload (pc := 33) X 4 dX5_bound_33 rfl ?_
          refine r_callS (pc := 35) (As := [vI x4]) (rest := []) (W' := fun q35_9 => (Zw (kE K) lt b c ms rd m P)) (rv := fun q35_9 => some (vI q35_9)) X dX5_bound_35 rfl (fun a ha => c_X5_isName N lt b c ms rd m P x4 K.1.2.1 K.2.2.1.1 (kE K) a ha) (fun a => Zw_d _ _ _ _ _ _ _ _) gd_X5_154 rfl (n := 1) (by decide) rfl (by decide) (Nat.zero_le _) (fun q35_9 eq35_9 => ?_)
          show Rn K _ 0 0 _ 38 [(0, .ref (kB K + 0)), (1, vI x1), (2, vI x2), (3, vI x3), (4, vI x4), (5, vG (kB K) q2_1), (6, vG (kB K) q9_2)] [vI q35_9] (Zw (kE K) lt b c ms rd m P)
          refine r_ck1 (fun h10 => ?_)
          refine r_ifne (pc := 38) X h10 dX5_bound_38 (tgt := 46) (by decide) (fun h11 => ?_) (fun h11 => ?_)
          · refine r_aload_n (pc := 46) X 0 dX5_bound_46 rfl rfl ?_
            refine r_iload (pc := 47) X 4 dX5_bound_47 rfl ?_
            refine r_aload_n (pc := 49) X 0 dX5_bound_49 rfl rfl ?_
            refine r_get (pc := 50) (v := .ref (kB K + 15)) X 0 12 inX5 rfl rfl (by decide) tf_X5_35 rfl dX5_bound_50 ?_
            refine r_gload (pc := 53) X 5 dX5_bound_53 rfl ?_
            refine r_gload (pc := 55) X 6 dX5_bound_55 rfl ?_
            refine r_iload_n (pc := 57) X 1 dX5_bound_57 rfl rfl ?_
            refine r_iconst (pc := 58) X 1 dX5_bound_58 (by decide) ?_
            refine r_jn (J := fun j67 => ∀ (s5_67 : Int), Rn K (Q_X5_bound K lt b c ms rd m P) 0 0 (j67 s5_67) 67 [(0, .ref (kB K + 0))] [vI s5_67, vG (kB K) q9_2, vG (kB K) q2_1, .ref (kB K + 15), vI x4, .ref (kB K + 0)] (Zw (kE K) lt b c ms rd m P)) ?_ (fun j67 hj67 => ?_)
            · intro s5_67
              refine r_aload_n (pc := 67) X 0 dX5_bound_67 rfl rfl ?_
              refine r_get (pc := 68) (v := .ref (kB K + 5)) X 0 11 inX5 rfl rfl (by decide) tf_X5_28 rfl dX5_bound_68 ?_
              refine r_callV (pc := 71) (q0 := 15) (ci := 1) (As := [vG (kB K) q2_1, vG (kB K) q9_2, vI s5_67, .ref (kB K + 5)]) (rest := [vI x4, .ref (kB K + 0)]) (W' := fun q71_12 => (Zw (kE K) lt q71_12.2.1 q71_12.2.2.1 ms rd m q71_12.2.2.2)) (rv := fun q71_12 => some (vG (kB K) q71_12.1)) X dX5_bound_71 rfl (fun a ha => c_X1_boundOf N lt b c ms rd m P q2_1 q9_2 s5_67 K.1.2.1 K.2.2.1.1 (kE K) a ha) (fun a => Zw_d _ _ _ _ _ _ _ _) gd_X5_181 rfl (n := 4) (by decide) rfl (by decide) rfl rfl rfl (by simp [z_cat, z_catR, z_catI, z_catL]) (fun q71_12 eq71_12 => ?_)
              show Rn K _ 2 122 _ 74 [(0, .ref (kB K + 0))] [vG (kB K) q71_12.1, vI x4, .ref (kB K + 0)] (Zw (kE K) lt q71_12.2.1 q71_12.2.2.1 ms rd m q71_12.2.2.2)
              refine r_callV (pc := 74) (q0 := 0) (ci := 5) (As := [vI x4, vG (kB K) q71_12.1]) (rest := []) (W' := fun q74_13 => (Zw (kE K) q74_13.2 q71_12.2.1 q71_12.2.2.1 ms rd m q71_12.2.2.2)) (rv := fun q74_13 => some (vI q74_13.1)) X dX5_bound_74 rfl (fun a ha => c_X5_give N lt q71_12.2.1 q71_12.2.2.1 ms rd m q71_12.2.2.2 x4 q71_12.1 K.1.2.1 K.2.2.1.1 (kE K) a ha) (fun a => Zw_d _ _ _ _ _ _ _ _) gd_X5_165 rfl (n := 2) (by decide) rfl (by decide) rfl rfl rfl (Nat.zero_le _) (fun q74_13 eq74_13 => ?_)
              show Rn K _ 2 122 _ 77 [(0, .ref (kB K + 0))] [vI q74_13.1] (Zw (kE K) q74_13.2 q71_12.2.1 q71_12.2.2.1 ms rd m q71_12.2.2.2)
              exact r_iret (pc := 77) X rfl rfl (by decide) dX5_bound_77
            refine r_icmp_ne (pc := 59) X h4 (by decide) dX5_bound_59 (tgt := 66) (by decide) (fun h14 => ?_) (fun h14 => ?_)
            · refine r_iconst (pc := 66) X 0 dX5_bound_66 (by decide) ?_
              refine r_sub [0] rfl ?_
              exact hj67 0
            · refine r_iconst (pc := 62) X 1 dX5_bound_62 (by decide) ?_
              refine r_goto (pc := 63) X dX5_bound_63 (tgt := 67) (by decide) ?_
              refine r_sub [0] rfl ?_
              exact hj67 1
          · refine r_sub [0] rfl ?_
            exact hj41
theorem c_X5_bound (N : Nat) (lt b c ms rd m : Bd) (P : PL) (x1 x2 x3 x4 : Int) (l : Launch) (D : va_G) (E : ET) (a : Int × Bd × Bd × Bd × PL) (ha : f_X5_bound N lt b c P x1 x2 x3 x4 = some a) : Ct l yX5_bound (Cond.code yX5_bound cX5_bound 7 (some .int) :: lw_g) ({ frames := 6, cells := 2, slots := 122, locals := 153 } : Room) D E [.ref (E.2.2.2 + 0), vI x1, vI x2, vI x3, vI x4] (Zw E lt b c ms rd m P) (Zw E a.2.1 a.2.2.1 a.2.2.2.1 ms rd m a.2.2.2.2) (some (vI a.1)) :=
  ct_of (av := fun E => [.ref (E.2.2.2 + 0), vI x1, vI x2, vI x3, vI x4]) (W0 := fun E => Zw E lt b c ms rd m P) (W1 := fun E (a : Int × Bd × Bd × Bd × PL) => Zw E a.2.1 a.2.2.1 a.2.2.2.1 ms rd m a.2.2.2.2) (rw := fun E a => some (vI a.1)) (by decide) rfl (fun E => Zw_d E lt b c ms rd m P) (fun E => by simp [lg_sl, z_cat, z_catR, z_catI, z_catL]) (fun K X => r_lv (by simp [lv_args, z_cat, z_catR, z_catI, z_catL]) (t_X5_bound N lt b c ms rd m P x1 x2 x3 x4 K X)) l D E a ha
abbrev Q_X5_swap (K : KT) (lt b c ms rd m : Bd) (P : PL) : (Int × Bd × Bd × Bd × PL) → State → Prop := Qm K ({ frames := 6, cells := 2, slots := 122, locals := 145 } : Room) (fun a : Int × Bd × Bd × Bd × PL => Zw (kE K) a.2.1 a.2.2.1 c a.2.2.2.1 rd m a.2.2.2.2) (fun a => some (vI a.1))
set_option maxRecDepth 100000 in
set_option maxHeartbeats 4000000 in
theorem t_X5_swap (N : Nat) (lt b c ms rd m : Bd) (P : PL) (x1 x2 x3 x4 : Int) (K : KT) (X : Kok K cX5_swap yX5_swap.cls lw_g ({ frames := 6, cells := 2, slots := 122, locals := 145 } : Room) (some .int) 8) : Rn K (Q_X5_swap K lt b c ms rd m P) 0 0 (f_X5_swap N lt b ms P x1 x2 x3 x4) 0 [(0, .ref (kB K + 0)), (1, vI x1), (2, vI x2), (3, vI x3), (4, vI x4)] [] (Zw (kE K) lt b c ms rd m P) := by
  unfold f_X5_swap
  refine r_aload_n (pc := 0) X 0 dX5_swap_0 rfl rfl ?_
  refine r_iload_n (pc := 1) X 1 dX5_swap_1 rfl rfl ?_
  refine r_callV (pc := 2) (q0 := 0) (ci := 5) (As := [vI x1]) (rest := []) (W' := fun q2_1 => (Zw (kE K) lt b c ms rd m P)) (rv := fun q2_1 => some (vG (kB K) q2_1)) X dX5_swap_2 rfl (fun a ha => c_X5_graphOf N lt b c ms rd m P x1 K.1.2.1 K.2.2.1.1 (kE K) a ha) (fun a => Zw_d _ _ _ _ _ _ _ _) gd_X5_92 rfl (n := 1) (by decide) rfl (by decide) rfl rfl rfl (Nat.zero_le _) (fun q2_1 eq2_1 => ?_)
  show Rn K _ 0 0 _ 5 [(0, .ref (kB K + 0)), (1, vI x1), (2, vI x2), (3, vI x3), (4, vI x4)] [vG (kB K) q2_1] (Zw (kE K) lt b c ms rd m P)
  refine r_gstore (pc := 5) (lv' := [(0, .ref (kB K + 0)), (1, vI x1), (2, vI x2), (3, vI x3), (4, vI x4), (5, vG (kB K) q2_1)]) X [1, 2, 3, 4, 5, 0] dX5_swap_5 (by decide) rfl ?_
  refine r_aload_n (pc := 7) X 0 dX5_swap_7 rfl rfl ?_
  refine r_iload_n (pc := 8) X 2 dX5_swap_8 rfl rfl ?_
  refine r_callV (pc := 9) (q0 := 0) (ci := 5) (As := [vI x2]) (rest := []) (W' := fun q9_2 => (Zw (kE K) lt b c ms rd m P)) (rv := fun q9_2 => some (vG (kB K) q9_2)) X dX5_swap_9 rfl (fun a ha => c_X5_graphOf N lt b c ms rd m P x2 K.1.2.1 K.2.2.1.1 (kE K) a ha) (fun a => Zw_d _ _ _ _ _ _ _ _) gd_X5_92 rfl (n := 1) (by decide) rfl (by decide) rfl rfl rfl (Nat.zero_le _) (fun q9_2 eq9_2 => ?_)
  show Rn K _ 0 0 _ 12 [(0, .ref (kB K + 0)), (1, vI x1), (2, vI x2), (3, vI x3), (4, vI x4), (5, vG (kB K) q2_1)] [vG (kB K) q9_2] (Zw (kE K) lt b c ms rd m P)
  refine r_gstore (pc := 12) (i := 6) (lv' := [(0, .ref (kB K + 0)), (1, vI x1), (2, vI x2), (3, vI x3), (4, vI x4), (5, vG (kB K) q2_1), (6, vG (kB K) q9_2)]) X [1, 2, 3, 4, 5, 6, 0] dX5_swap_12 (by decide) (by simp [lv_pick, z_cat]) ?_
  refine r_aload_n (pc := 14) X 0 dX5_swap_14 rfl rfl ?_
  refine r_iload_n (pc := 15) X 3 dX5_swap_15 rfl rfl ?_
  refine r_callV (pc := 16) (q0 := 0) (ci := 5) (As := [vI x3]) (rest := []) (W' := fun q16_3 => (Zw (kE K) lt b c ms rd m P)) (rv := fun q16_3 => some (vG (kB K) q16_3)) X dX5_swap_16 rfl (fun a ha => c_X5_graphOf N lt b c ms rd m P x3 K.1.2.1 K.2.2.1.1 (kE K) a ha) (fun a => Zw_d _ _ _ _ _ _ _ _) gd_X5_92 rfl (n := 1) (by decide) rfl (by decide) rfl rfl rfl (Nat.zero_le _) (fun q16_3 eq16_3 => ?_)
  show Rn K _ 0 0 _ 19 [(0, .ref (kB K + 0)), (1, vI x1), (2, vI x2), (3, vI x3), (4, vI x4), (5, vG (kB K) q2_1), (6, vG (kB K) q9_2)] [vG (kB K) q16_3] (Zw (kE K) lt b c ms rd m P)
  refine r_gstore (pc := 19) (i := 7) (lv' := [(0, .ref (kB K + 0)), (1, vI x1), (2, vI x2), (3, vI x3), (4, vI x4), (5, vG (kB K) q2_1), (6, vG (kB K) q9_2), (7, vG (kB K) q16_3)]) X [1, 2, 3, 4, 5, 6, 7, 0] dX5_swap_19 (by decide) (by simp [lv_pick, z_cat]) ?_
  refine r_gload (pc := 21) X 5 dX5_swap_21 rfl ?_
  refine r_jn (J := fun j44 => Rn K (Q_X5_swap K lt b c ms rd m P) 0 0 j44 44 [(0, .ref (kB K + 0))] [] (Zw (kE K) lt b c ms rd m P)) ?_ (fun j44 hj44 => ?_)
  · skip
    refine r_aload_n (pc := 44) X 0 dX5_swap_44 rfl rfl ?_
    refine r_callV (pc := 45) (q0 := 0) (ci := 5) (As := []) (rest := []) (W' := fun q45_4 => (Zw (kE K) q45_4.2 b c ms rd m P)) (rv := fun q45_4 => some (vI q45_4.1)) X dX5_swap_45 rfl (fun a ha => c_X5_refuseBad N lt b c ms rd m P K.1.2.1 K.2.2.1.1 (kE K) a ha) (fun a => Zw_d _ _ _ _ _ _ _ _) gd_X5_53 rfl (n := 0) (by decide) rfl (by decide) rfl rfl rfl (Nat.zero_le _) (fun q45_4 eq45_4 => ?_)
    show Rn K _ 0 0 _ 48 [(0, .ref (kB K + 0))] [vI q45_4.1] (Zw (kE K) q45_4.2 b c ms rd m P)
    exact r_iret (pc := 48) X rfl rfl (by decide) dX5_swap_48
  refine r_ifnull (pc := 23) X dX5_swap_23 (tgt := 44) (by decide) (fun h5 => ?_) (fun h5 => ?_)
  · refine r_sub [0] rfl ?_
    exact hj44
  · refine r_gload (pc := 26) X 6 dX5_swap_26 rfl ?_
    refine r_ifnull (pc := 28) X dX5_swap_28 (tgt := 44) (by decide) (fun h6 => ?_) (fun h6 => ?_)
    · refine r_sub [0] rfl ?_
      exact hj44
    · refine r_gload (pc := 31) X 7 dX5_swap_31 rfl ?_
      refine r_ifnull (pc := 33) X dX5_swap_33 (tgt := 44) (by decide) (fun h7 => ?_) (fun h7 => ?_)
      · refine r_sub [0] rfl ?_
        exact hj44
      · refine r_iload (pc := 36) X 4 dX5_swap_36 rfl ?_
        refine r_callS (pc := 38) (As := [vI x4]) (rest := []) (W' := fun q38_8 => (Zw (kE K) lt b c ms rd m P)) (rv := fun q38_8 => some (vI q38_8)) X dX5_swap_38 rfl (fun a ha => c_X5_isName N lt b c ms rd m P x4 K.1.2.1 K.2.2.1.1 (kE K) a ha) (fun a => Zw_d _ _ _ _ _ _ _ _) gd_X5_154 rfl (n := 1) (by decide) rfl (by decide) (Nat.zero_le _) (fun q38_8 eq38_8 => ?_)
        show Rn K _ 0 0 _ 41 [(0, .ref (kB K + 0)), (1, vI x1), (2, vI x2), (3, vI x3), (4, vI x4), (5, vG (kB K) q2_1), (6, vG (kB K) q9_2), (7, vG (kB K) q16_3)] [vI q38_8] (Zw (kE K) lt b c ms rd m P)
        refine r_ck1 (fun h9 => ?_)
        refine r_ifne (pc := 41) X h9 dX5_swap_41 (tgt := 49) (by decide) (fun h10 => ?_) (fun h10 => ?_)
        · refine r_aload_n (pc := 49) X 0 dX5_swap_49 rfl rfl ?_
          refine r_iload (pc := 50) X 4 dX5_swap_50 rfl ?_
          refine r_aload_n (pc := 52) X 0 dX5_swap_52 rfl rfl ?_
          refine r_get (pc := 53) (v := .ref (kB K + 5)) X 0 11 inX5 rfl rfl (by decide) tf_X5_28 rfl dX5_swap_53 ?_
          refine r_gload (pc := 56) X 5 dX5_swap_56 rfl ?_
          refine r_aload_n (pc := 58) X 0 dX5_swap_58 rfl rfl ?_
          refine r_get (pc := 59) (v := .ref (kB K + 19)) X 0 13 inX5 rfl rfl (by decide) tf_X5_42 rfl dX5_swap_59 ?_
          refine r_gload (pc := 62) X 5 dX5_swap_62 rfl ?_
          refine r_gload (pc := 64) X 6 dX5_swap_64 rfl ?_
          refine r_callV (pc := 66) (q0 := 19) (ci := 3) (As := [vG (kB K) q2_1, vG (kB K) q9_2]) (rest := [vG (kB K) q2_1, .ref (kB K + 5), vI x4, .ref (kB K + 0)]) (W' := fun q66_11 => (Zw (kE K) lt b c q66_11.2 rd m P)) (rv := fun q66_11 => some (vI q66_11.1)) X dX5_swap_66 rfl (fun a ha => c_X3_placeOf N lt b c ms rd m P q2_1 q9_2 K.1.2.1 K.2.2.1.1 (kE K) a ha) (fun a => Zw_d _ _ _ _ _ _ _ _) gd_X5_118 rfl (n := 2) (by decide) rfl (by decide) rfl rfl rfl (by simp [z_cat, z_catR, z_catI, z_catL]) (fun q66_11 eq66_11 => ?_)
          show Rn K _ 0 0 _ 69 [(0, .ref (kB K + 0)), (1, vI x1), (2, vI x2), (3, vI x3), (4, vI x4), (5, vG (kB K) q2_1), (6, vG (kB K) q9_2), (7, vG (kB K) q16_3)] [vI q66_11.1, vG (kB K) q2_1, .ref (kB K + 5), vI x4, .ref (kB K + 0)] (Zw (kE K) lt b c q66_11.2 rd m P)
          refine r_gload (pc := 69) X 7 dX5_swap_69 rfl ?_
          refine r_callV (pc := 71) (q0 := 5) (ci := 0) (As := [vG (kB K) q2_1, vI q66_11.1, vG (kB K) q16_3]) (rest := [vI x4, .ref (kB K + 0)]) (W' := fun q71_12 => (Zw (kE K) lt q71_12.2.1 c q66_11.2 rd m q71_12.2.2)) (rv := fun q71_12 => some (vG (kB K) q71_12.1)) X dX5_swap_71 rfl (fun a ha => c_X0_replaced N lt b c q66_11.2 rd m P q2_1 q66_11.1 q16_3 K.1.2.1 K.2.2.1.1 (kE K) a ha) (fun a => Zw_d _ _ _ _ _ _ _ _) gd_X5_185 rfl (n := 3) (by decide) rfl (by decide) rfl rfl rfl (by simp [z_cat, z_catR, z_catI, z_catL]) (fun q71_12 eq71_12 => ?_)
          show Rn K _ 2 122 _ 74 [(0, .ref (kB K + 0)), (1, vI x1), (2, vI x2), (3, vI x3), (4, vI x4), (5, vG (kB K) q2_1), (6, vG (kB K) q9_2), (7, vG (kB K) q16_3)] [vG (kB K) q71_12.1, vI x4, .ref (kB K + 0)] (Zw (kE K) lt q71_12.2.1 c q66_11.2 rd m q71_12.2.2)
          refine r_callV (pc := 74) (q0 := 0) (ci := 5) (As := [vI x4, vG (kB K) q71_12.1]) (rest := []) (W' := fun q74_13 => (Zw (kE K) q74_13.2 q71_12.2.1 c q66_11.2 rd m q71_12.2.2)) (rv := fun q74_13 => some (vI q74_13.1)) X dX5_swap_74 rfl (fun a ha => c_X5_give N lt q71_12.2.1 c q66_11.2 rd m q71_12.2.2 x4 q71_12.1 K.1.2.1 K.2.2.1.1 (kE K) a ha) (fun a => Zw_d _ _ _ _ _ _ _ _) gd_X5_165 rfl (n := 2) (by decide) rfl (by decide) rfl rfl rfl (Nat.zero_le _) (fun q74_13 eq74_13 => ?_)
          show Rn K _ 2 122 _ 77 [(0, .ref (kB K + 0)), (1, vI x1), (2, vI x2), (3, vI x3), (4, vI x4), (5, vG (kB K) q2_1), (6, vG (kB K) q9_2), (7, vG (kB K) q16_3)] [vI q74_13.1] (Zw (kE K) q74_13.2 q71_12.2.1 c q66_11.2 rd m q71_12.2.2)
          exact r_iret (pc := 77) X rfl rfl (by decide) dX5_swap_77
        · refine r_sub [0] rfl ?_
          exact hj44
theorem c_X5_swap (N : Nat) (lt b c ms rd m : Bd) (P : PL) (x1 x2 x3 x4 : Int) (l : Launch) (D : va_G) (E : ET) (a : Int × Bd × Bd × Bd × PL) (ha : f_X5_swap N lt b ms P x1 x2 x3 x4 = some a) : Ct l yX5_swap (Cond.code yX5_swap cX5_swap 8 (some .int) :: lw_g) ({ frames := 6, cells := 2, slots := 122, locals := 145 } : Room) D E [.ref (E.2.2.2 + 0), vI x1, vI x2, vI x3, vI x4] (Zw E lt b c ms rd m P) (Zw E a.2.1 a.2.2.1 c a.2.2.2.1 rd m a.2.2.2.2) (some (vI a.1)) :=
  ct_of (av := fun E => [.ref (E.2.2.2 + 0), vI x1, vI x2, vI x3, vI x4]) (W0 := fun E => Zw E lt b c ms rd m P) (W1 := fun E (a : Int × Bd × Bd × Bd × PL) => Zw E a.2.1 a.2.2.1 c a.2.2.2.1 rd m a.2.2.2.2) (rw := fun E a => some (vI a.1)) (by decide) rfl (fun E => Zw_d E lt b c ms rd m P) (fun E => by simp [lg_sl, z_cat, z_catR, z_catI, z_catL]) (fun K X => r_lv (by simp [lv_args, z_cat, z_catR, z_catI, z_catL]) (t_X5_swap N lt b c ms rd m P x1 x2 x3 x4 K X)) l D E a ha
abbrev Q_X5_cut (K : KT) (lt b c ms rd m : Bd) (P : PL) : (Int × Bd × Bd × PL) → State → Prop := Qm K ({ frames := 6, cells := 2, slots := 122, locals := 145 } : Room) (fun a : Int × Bd × Bd × PL => Zw (kE K) a.2.1 a.2.2.1 c ms rd m a.2.2.2) (fun a => some (vI a.1))
set_option maxRecDepth 100000 in
set_option maxHeartbeats 4000000 in
theorem t_X5_cut (N : Nat) (lt b c ms rd m : Bd) (P : PL) (x1 x2 x3 : Int) (K : KT) (X : Kok K cX5_cut yX5_cut.cls lw_g ({ frames := 6, cells := 2, slots := 122, locals := 145 } : Room) (some .int) 5) : Rn K (Q_X5_cut K lt b c ms rd m P) 0 0 (f_X5_cut N lt b P x1 x2 x3) 0 [(0, .ref (kB K + 0)), (1, vI x1), (2, vI x2), (3, vI x3)] [] (Zw (kE K) lt b c ms rd m P) := by
  unfold f_X5_cut
  refine r_aload_n (pc := 0) X 0 dX5_cut_0 rfl rfl ?_
  refine r_iload_n (pc := 1) X 1 dX5_cut_1 rfl rfl ?_
  refine r_callV (pc := 2) (q0 := 0) (ci := 5) (As := [vI x1]) (rest := []) (W' := fun q2_1 => (Zw (kE K) lt b c ms rd m P)) (rv := fun q2_1 => some (vG (kB K) q2_1)) X dX5_cut_2 rfl (fun a ha => c_X5_graphOf N lt b c ms rd m P x1 K.1.2.1 K.2.2.1.1 (kE K) a ha) (fun a => Zw_d _ _ _ _ _ _ _ _) gd_X5_92 rfl (n := 1) (by decide) rfl (by decide) rfl rfl rfl (Nat.zero_le _) (fun q2_1 eq2_1 => ?_)
  show Rn K _ 0 0 _ 5 [(0, .ref (kB K + 0)), (1, vI x1), (2, vI x2), (3, vI x3)] [vG (kB K) q2_1] (Zw (kE K) lt b c ms rd m P)
  refine r_gstore (pc := 5) (lv' := [(0, .ref (kB K + 0)), (1, vI x1), (2, vI x2), (3, vI x3), (4, vG (kB K) q2_1)]) X [1, 2, 3, 4, 0] dX5_cut_5 (by decide) rfl ?_
  refine r_gload (pc := 7) X 4 dX5_cut_7 rfl ?_
  refine r_jn (J := fun j29 => Rn K (Q_X5_cut K lt b c ms rd m P) 0 0 j29 29 [(0, .ref (kB K + 0))] [] (Zw (kE K) lt b c ms rd m P)) ?_ (fun j29 hj29 => ?_)
  · skip
    refine r_aload_n (pc := 29) X 0 dX5_cut_29 rfl rfl ?_
    refine r_callV (pc := 30) (q0 := 0) (ci := 5) (As := []) (rest := []) (W' := fun q30_2 => (Zw (kE K) q30_2.2 b c ms rd m P)) (rv := fun q30_2 => some (vI q30_2.1)) X dX5_cut_30 rfl (fun a ha => c_X5_refuseBad N lt b c ms rd m P K.1.2.1 K.2.2.1.1 (kE K) a ha) (fun a => Zw_d _ _ _ _ _ _ _ _) gd_X5_53 rfl (n := 0) (by decide) rfl (by decide) rfl rfl rfl (Nat.zero_le _) (fun q30_2 eq30_2 => ?_)
    show Rn K _ 0 0 _ 33 [(0, .ref (kB K + 0))] [vI q30_2.1] (Zw (kE K) q30_2.2 b c ms rd m P)
    exact r_iret (pc := 33) X rfl rfl (by decide) dX5_cut_33
  refine r_ifnull (pc := 9) X dX5_cut_9 (tgt := 29) (by decide) (fun h3 => ?_) (fun h3 => ?_)
  · refine r_sub [0] rfl ?_
    exact hj29
  · refine r_iload_n (pc := 12) X 2 dX5_cut_12 rfl rfl ?_
    refine r_ck1 (fun h4 => ?_)
    refine r_iflt (pc := 13) X h4 dX5_cut_13 (tgt := 29) (by decide) (fun h5 => ?_) (fun h5 => ?_)
    · refine r_sub [0] rfl ?_
      exact hj29
    · refine r_iload_n (pc := 16) X 2 dX5_cut_16 rfl rfl ?_
      refine r_bipush (pc := 17) X 9 dX5_cut_17 (by decide) ?_
      refine r_icmp_gt (pc := 19) X h4 (by decide) dX5_cut_19 (tgt := 29) (by decide) (fun h6 => ?_) (fun h6 => ?_)
      · refine r_sub [0] rfl ?_
        exact hj29
      · refine r_iload_n (pc := 22) X 3 dX5_cut_22 rfl rfl ?_
        refine r_callS (pc := 23) (As := [vI x3]) (rest := []) (W' := fun q23_7 => (Zw (kE K) lt b c ms rd m P)) (rv := fun q23_7 => some (vI q23_7)) X dX5_cut_23 rfl (fun a ha => c_X5_isName N lt b c ms rd m P x3 K.1.2.1 K.2.2.1.1 (kE K) a ha) (fun a => Zw_d _ _ _ _ _ _ _ _) gd_X5_154 rfl (n := 1) (by decide) rfl (by decide) (Nat.zero_le _) (fun q23_7 eq23_7 => ?_)
        show Rn K _ 0 0 _ 26 [(0, .ref (kB K + 0)), (1, vI x1), (2, vI x2), (3, vI x3), (4, vG (kB K) q2_1)] [vI q23_7] (Zw (kE K) lt b c ms rd m P)
        refine r_ck1 (fun h8 => ?_)
        refine r_ifne (pc := 26) X h8 dX5_cut_26 (tgt := 34) (by decide) (fun h9 => ?_) (fun h9 => ?_)
        · refine r_aload_n (pc := 34) X 0 dX5_cut_34 rfl rfl ?_
          refine r_iload_n (pc := 35) X 3 dX5_cut_35 rfl rfl ?_
          refine r_aload_n (pc := 36) X 0 dX5_cut_36 rfl rfl ?_
          refine r_get (pc := 37) (v := .ref (kB K + 5)) X 0 11 inX5 rfl rfl (by decide) tf_X5_28 rfl dX5_cut_37 ?_
          refine r_gload (pc := 40) X 4 dX5_cut_40 rfl ?_
          refine r_iload_n (pc := 42) X 2 dX5_cut_42 rfl rfl ?_
          refine r_callV (pc := 43) (q0 := 5) (ci := 0) (As := [vG (kB K) q2_1, vI x2]) (rest := [vI x3, .ref (kB K + 0)]) (W' := fun q43_10 => (Zw (kE K) lt q43_10.2.1 c ms rd m q43_10.2.2)) (rv := fun q43_10 => some (vG (kB K) q43_10.1)) X dX5_cut_43 rfl (fun a ha => c_X0_cutOff N lt b c ms rd m P q2_1 x2 K.1.2.1 K.2.2.1.1 (kE K) a ha) (fun a => Zw_d _ _ _ _ _ _ _ _) gd_X5_189 rfl (n := 2) (by decide) rfl (by decide) rfl rfl rfl (by simp [z_cat, z_catR, z_catI, z_catL]) (fun q43_10 eq43_10 => ?_)
          show Rn K _ 2 122 _ 46 [(0, .ref (kB K + 0)), (1, vI x1), (2, vI x2), (3, vI x3), (4, vG (kB K) q2_1)] [vG (kB K) q43_10.1, vI x3, .ref (kB K + 0)] (Zw (kE K) lt q43_10.2.1 c ms rd m q43_10.2.2)
          refine r_callV (pc := 46) (q0 := 0) (ci := 5) (As := [vI x3, vG (kB K) q43_10.1]) (rest := []) (W' := fun q46_11 => (Zw (kE K) q46_11.2 q43_10.2.1 c ms rd m q43_10.2.2)) (rv := fun q46_11 => some (vI q46_11.1)) X dX5_cut_46 rfl (fun a ha => c_X5_give N lt q43_10.2.1 c ms rd m q43_10.2.2 x3 q43_10.1 K.1.2.1 K.2.2.1.1 (kE K) a ha) (fun a => Zw_d _ _ _ _ _ _ _ _) gd_X5_165 rfl (n := 2) (by decide) rfl (by decide) rfl rfl rfl (Nat.zero_le _) (fun q46_11 eq46_11 => ?_)
          show Rn K _ 2 122 _ 49 [(0, .ref (kB K + 0)), (1, vI x1), (2, vI x2), (3, vI x3), (4, vG (kB K) q2_1)] [vI q46_11.1] (Zw (kE K) q46_11.2 q43_10.2.1 c ms rd m q43_10.2.2)
          exact r_iret (pc := 49) X rfl rfl (by decide) dX5_cut_49
        · refine r_sub [0] rfl ?_
          exact hj29
theorem c_X5_cut (N : Nat) (lt b c ms rd m : Bd) (P : PL) (x1 x2 x3 : Int) (l : Launch) (D : va_G) (E : ET) (a : Int × Bd × Bd × PL) (ha : f_X5_cut N lt b P x1 x2 x3 = some a) : Ct l yX5_cut (Cond.code yX5_cut cX5_cut 5 (some .int) :: lw_g) ({ frames := 6, cells := 2, slots := 122, locals := 145 } : Room) D E [.ref (E.2.2.2 + 0), vI x1, vI x2, vI x3] (Zw E lt b c ms rd m P) (Zw E a.2.1 a.2.2.1 c ms rd m a.2.2.2) (some (vI a.1)) :=
  ct_of (av := fun E => [.ref (E.2.2.2 + 0), vI x1, vI x2, vI x3]) (W0 := fun E => Zw E lt b c ms rd m P) (W1 := fun E (a : Int × Bd × Bd × PL) => Zw E a.2.1 a.2.2.1 c ms rd m a.2.2.2) (rw := fun E a => some (vI a.1)) (by decide) rfl (fun E => Zw_d E lt b c ms rd m P) (fun E => by simp [lg_sl, z_cat, z_catR, z_catI, z_catL]) (fun K X => r_lv (by simp [lv_args, z_cat, z_catR, z_catI, z_catL]) (t_X5_cut N lt b c ms rd m P x1 x2 x3 K X)) l D E a ha
abbrev Q_X5_turn (K : KT) (lt b c ms rd m : Bd) (P : PL) : (Int × Bd × Bd × PL) → State → Prop := Qm K ({ frames := 6, cells := 2, slots := 122, locals := 143 } : Room) (fun a : Int × Bd × Bd × PL => Zw (kE K) a.2.1 a.2.2.1 c ms rd m a.2.2.2) (fun a => some (vI a.1))
set_option maxRecDepth 100000 in
set_option maxHeartbeats 4000000 in
theorem t_X5_turn (N : Nat) (lt b c ms rd m : Bd) (P : PL) (x1 x2 x3 : Int) (K : KT) (X : Kok K cX5_turn yX5_turn.cls lw_g ({ frames := 6, cells := 2, slots := 122, locals := 143 } : Room) (some .int) 5) : Rn K (Q_X5_turn K lt b c ms rd m P) 0 0 (f_X5_turn N lt b P x1 x2 x3) 0 [(0, .ref (kB K + 0)), (1, vI x1), (2, vI x2), (3, vI x3)] [] (Zw (kE K) lt b c ms rd m P) := by
  unfold f_X5_turn
  refine r_aload_n (pc := 0) X 0 dX5_turn_0 rfl rfl ?_
  refine r_iload_n (pc := 1) X 1 dX5_turn_1 rfl rfl ?_
  refine r_callV (pc := 2) (q0 := 0) (ci := 5) (As := [vI x1]) (rest := []) (W' := fun q2_1 => (Zw (kE K) lt b c ms rd m P)) (rv := fun q2_1 => some (vG (kB K) q2_1)) X dX5_turn_2 rfl (fun a ha => c_X5_graphOf N lt b c ms rd m P x1 K.1.2.1 K.2.2.1.1 (kE K) a ha) (fun a => Zw_d _ _ _ _ _ _ _ _) gd_X5_92 rfl (n := 1) (by decide) rfl (by decide) rfl rfl rfl (Nat.zero_le _) (fun q2_1 eq2_1 => ?_)
  show Rn K _ 0 0 _ 5 [(0, .ref (kB K + 0)), (1, vI x1), (2, vI x2), (3, vI x3)] [vG (kB K) q2_1] (Zw (kE K) lt b c ms rd m P)
  refine r_gstore (pc := 5) (lv' := [(0, .ref (kB K + 0)), (1, vI x1), (2, vI x2), (3, vI x3), (4, vG (kB K) q2_1)]) X [1, 2, 3, 4, 0] dX5_turn_5 (by decide) rfl ?_
  refine r_gload (pc := 7) X 4 dX5_turn_7 rfl ?_
  refine r_jn (J := fun j30 => Rn K (Q_X5_turn K lt b c ms rd m P) 0 0 j30 30 [(0, .ref (kB K + 0))] [] (Zw (kE K) lt b c ms rd m P)) ?_ (fun j30 hj30 => ?_)
  · skip
    refine r_aload_n (pc := 30) X 0 dX5_turn_30 rfl rfl ?_
    refine r_callV (pc := 31) (q0 := 0) (ci := 5) (As := []) (rest := []) (W' := fun q31_2 => (Zw (kE K) q31_2.2 b c ms rd m P)) (rv := fun q31_2 => some (vI q31_2.1)) X dX5_turn_31 rfl (fun a ha => c_X5_refuseBad N lt b c ms rd m P K.1.2.1 K.2.2.1.1 (kE K) a ha) (fun a => Zw_d _ _ _ _ _ _ _ _) gd_X5_53 rfl (n := 0) (by decide) rfl (by decide) rfl rfl rfl (Nat.zero_le _) (fun q31_2 eq31_2 => ?_)
    show Rn K _ 0 0 _ 34 [(0, .ref (kB K + 0))] [vI q31_2.1] (Zw (kE K) q31_2.2 b c ms rd m P)
    exact r_iret (pc := 34) X rfl rfl (by decide) dX5_turn_34
  refine r_ifnull (pc := 9) X dX5_turn_9 (tgt := 30) (by decide) (fun h3 => ?_) (fun h3 => ?_)
  · refine r_sub [0] rfl ?_
    exact hj30
  · refine r_iload_n (pc := 12) X 2 dX5_turn_12 rfl rfl ?_
    refine r_iconst (pc := 13) X 5 dX5_turn_13 (by decide) ?_
    refine r_ck1 (fun h4 => ?_)
    refine r_icmp_lt (pc := 14) X h4 (by decide) dX5_turn_14 (tgt := 30) (by decide) (fun h5 => ?_) (fun h5 => ?_)
    · refine r_sub [0] rfl ?_
      exact hj30
    · refine r_iload_n (pc := 17) X 2 dX5_turn_17 rfl rfl ?_
      refine r_bipush (pc := 18) X 6 dX5_turn_18 (by decide) ?_
      refine r_icmp_gt (pc := 20) X h4 (by decide) dX5_turn_20 (tgt := 30) (by decide) (fun h6 => ?_) (fun h6 => ?_)
      · refine r_sub [0] rfl ?_
        exact hj30
      · refine r_iload_n (pc := 23) X 3 dX5_turn_23 rfl rfl ?_
        refine r_callS (pc := 24) (As := [vI x3]) (rest := []) (W' := fun q24_7 => (Zw (kE K) lt b c ms rd m P)) (rv := fun q24_7 => some (vI q24_7)) X dX5_turn_24 rfl (fun a ha => c_X5_isName N lt b c ms rd m P x3 K.1.2.1 K.2.2.1.1 (kE K) a ha) (fun a => Zw_d _ _ _ _ _ _ _ _) gd_X5_154 rfl (n := 1) (by decide) rfl (by decide) (Nat.zero_le _) (fun q24_7 eq24_7 => ?_)
        show Rn K _ 0 0 _ 27 [(0, .ref (kB K + 0)), (1, vI x1), (2, vI x2), (3, vI x3), (4, vG (kB K) q2_1)] [vI q24_7] (Zw (kE K) lt b c ms rd m P)
        refine r_ck1 (fun h8 => ?_)
        refine r_ifne (pc := 27) X h8 dX5_turn_27 (tgt := 35) (by decide) (fun h9 => ?_) (fun h9 => ?_)
        · refine r_aload_n (pc := 35) X 0 dX5_turn_35 rfl rfl ?_
          refine r_iload_n (pc := 36) X 3 dX5_turn_36 rfl rfl ?_
          refine r_aload_n (pc := 37) X 0 dX5_turn_37 rfl rfl ?_
          refine r_get (pc := 38) (v := .ref (kB K + 5)) X 0 11 inX5 rfl rfl (by decide) tf_X5_28 rfl dX5_turn_38 ?_
          refine r_gload (pc := 41) X 4 dX5_turn_41 rfl ?_
          refine r_iload_n (pc := 43) X 2 dX5_turn_43 rfl rfl ?_
          refine r_callV (pc := 44) (q0 := 5) (ci := 0) (As := [vG (kB K) q2_1, vI x2]) (rest := [vI x3, .ref (kB K + 0)]) (W' := fun q44_10 => (Zw (kE K) lt q44_10.2.1 c ms rd m q44_10.2.2)) (rv := fun q44_10 => some (vG (kB K) q44_10.1)) X dX5_turn_44 rfl (fun a ha => c_X0_turned N lt b c ms rd m P q2_1 x2 K.1.2.1 K.2.2.1.1 (kE K) a ha) (fun a => Zw_d _ _ _ _ _ _ _ _) gd_X5_193 rfl (n := 2) (by decide) rfl (by decide) rfl rfl rfl (by simp [z_cat, z_catR, z_catI, z_catL]) (fun q44_10 eq44_10 => ?_)
          show Rn K _ 2 122 _ 47 [(0, .ref (kB K + 0)), (1, vI x1), (2, vI x2), (3, vI x3), (4, vG (kB K) q2_1)] [vG (kB K) q44_10.1, vI x3, .ref (kB K + 0)] (Zw (kE K) lt q44_10.2.1 c ms rd m q44_10.2.2)
          refine r_callV (pc := 47) (q0 := 0) (ci := 5) (As := [vI x3, vG (kB K) q44_10.1]) (rest := []) (W' := fun q47_11 => (Zw (kE K) q47_11.2 q44_10.2.1 c ms rd m q44_10.2.2)) (rv := fun q47_11 => some (vI q47_11.1)) X dX5_turn_47 rfl (fun a ha => c_X5_give N lt q44_10.2.1 c ms rd m q44_10.2.2 x3 q44_10.1 K.1.2.1 K.2.2.1.1 (kE K) a ha) (fun a => Zw_d _ _ _ _ _ _ _ _) gd_X5_165 rfl (n := 2) (by decide) rfl (by decide) rfl rfl rfl (Nat.zero_le _) (fun q47_11 eq47_11 => ?_)
          show Rn K _ 2 122 _ 50 [(0, .ref (kB K + 0)), (1, vI x1), (2, vI x2), (3, vI x3), (4, vG (kB K) q2_1)] [vI q47_11.1] (Zw (kE K) q47_11.2 q44_10.2.1 c ms rd m q44_10.2.2)
          exact r_iret (pc := 50) X rfl rfl (by decide) dX5_turn_50
        · refine r_sub [0] rfl ?_
          exact hj30
theorem c_X5_turn (N : Nat) (lt b c ms rd m : Bd) (P : PL) (x1 x2 x3 : Int) (l : Launch) (D : va_G) (E : ET) (a : Int × Bd × Bd × PL) (ha : f_X5_turn N lt b P x1 x2 x3 = some a) : Ct l yX5_turn (Cond.code yX5_turn cX5_turn 5 (some .int) :: lw_g) ({ frames := 6, cells := 2, slots := 122, locals := 143 } : Room) D E [.ref (E.2.2.2 + 0), vI x1, vI x2, vI x3] (Zw E lt b c ms rd m P) (Zw E a.2.1 a.2.2.1 c ms rd m a.2.2.2) (some (vI a.1)) :=
  ct_of (av := fun E => [.ref (E.2.2.2 + 0), vI x1, vI x2, vI x3]) (W0 := fun E => Zw E lt b c ms rd m P) (W1 := fun E (a : Int × Bd × Bd × PL) => Zw E a.2.1 a.2.2.1 c ms rd m a.2.2.2) (rw := fun E a => some (vI a.1)) (by decide) rfl (fun E => Zw_d E lt b c ms rd m P) (fun E => by simp [lg_sl, z_cat, z_catR, z_catI, z_catL]) (fun K X => r_lv (by simp [lv_args, z_cat, z_catR, z_catI, z_catL]) (t_X5_turn N lt b c ms rd m P x1 x2 x3 K X)) l D E a ha
abbrev Q_X5_draw (K : KT) (lt b c ms rd m : Bd) (P : PL) : (Int × Bd × Bd × PL) → State → Prop := Qm K ({ frames := 6, cells := 2, slots := 122, locals := 143 } : Room) (fun a : Int × Bd × Bd × PL => Zw (kE K) a.2.1 a.2.2.1 c ms rd m a.2.2.2) (fun a => some (vI a.1))
set_option maxRecDepth 100000 in
set_option maxHeartbeats 4000000 in
theorem t_X5_draw (N : Nat) (lt b c ms rd m : Bd) (P : PL) (x1 x2 x3 : Int) (K : KT) (X : Kok K cX5_draw yX5_draw.cls lw_g ({ frames := 6, cells := 2, slots := 122, locals := 143 } : Room) (some .int) 4) : Rn K (Q_X5_draw K lt b c ms rd m P) 0 0 (f_X5_draw N lt b P x1 x2 x3) 0 [(0, .ref (kB K + 0)), (1, vI x1), (2, vI x2), (3, vI x3)] [] (Zw (kE K) lt b c ms rd m P) := by
  unfold f_X5_draw
  refine r_iload_n (pc := 0) X 1 dX5_draw_0 rfl rfl ?_
  refine r_jn (J := fun j28 => Rn K (Q_X5_draw K lt b c ms rd m P) 0 0 j28 28 [(0, .ref (kB K + 0))] [] (Zw (kE K) lt b c ms rd m P)) ?_ (fun j28 hj28 => ?_)
  · skip
    refine r_aload_n (pc := 28) X 0 dX5_draw_28 rfl rfl ?_
    refine r_callV (pc := 29) (q0 := 0) (ci := 5) (As := []) (rest := []) (W' := fun q29_1 => (Zw (kE K) q29_1.2 b c ms rd m P)) (rv := fun q29_1 => some (vI q29_1.1)) X dX5_draw_29 rfl (fun a ha => c_X5_refuseBad N lt b c ms rd m P K.1.2.1 K.2.2.1.1 (kE K) a ha) (fun a => Zw_d _ _ _ _ _ _ _ _) gd_X5_53 rfl (n := 0) (by decide) rfl (by decide) rfl rfl rfl (Nat.zero_le _) (fun q29_1 eq29_1 => ?_)
    show Rn K _ 0 0 _ 32 [(0, .ref (kB K + 0))] [vI q29_1.1] (Zw (kE K) q29_1.2 b c ms rd m P)
    exact r_iret (pc := 32) X rfl rfl (by decide) dX5_draw_32
  refine r_ck1 (fun h2 => ?_)
  refine r_iflt (pc := 1) X h2 dX5_draw_1 (tgt := 28) (by decide) (fun h3 => ?_) (fun h3 => ?_)
  · refine r_sub [0] rfl ?_
    exact hj28
  · refine r_iload_n (pc := 4) X 1 dX5_draw_4 rfl rfl ?_
    refine r_ldc (pc := 5) X 999999 tk_X5_196 dX5_draw_5 ?_
    refine r_icmp_gt (pc := 7) X h2 (by decide) dX5_draw_7 (tgt := 28) (by decide) (fun h4 => ?_) (fun h4 => ?_)
    · refine r_sub [0] rfl ?_
      exact hj28
    · refine r_iload_n (pc := 10) X 2 dX5_draw_10 rfl rfl ?_
      refine r_iconst (pc := 11) X 1 dX5_draw_11 (by decide) ?_
      refine r_ck1 (fun h5 => ?_)
      refine r_icmp_lt (pc := 12) X h5 (by decide) dX5_draw_12 (tgt := 28) (by decide) (fun h6 => ?_) (fun h6 => ?_)
      · refine r_sub [0] rfl ?_
        exact hj28
      · refine r_iload_n (pc := 15) X 2 dX5_draw_15 rfl rfl ?_
        refine r_bipush (pc := 16) X 12 dX5_draw_16 (by decide) ?_
        refine r_icmp_gt (pc := 18) X h5 (by decide) dX5_draw_18 (tgt := 28) (by decide) (fun h7 => ?_) (fun h7 => ?_)
        · refine r_sub [0] rfl ?_
          exact hj28
        · refine r_iload_n (pc := 21) X 3 dX5_draw_21 rfl rfl ?_
          refine r_callS (pc := 22) (As := [vI x3]) (rest := []) (W' := fun q22_8 => (Zw (kE K) lt b c ms rd m P)) (rv := fun q22_8 => some (vI q22_8)) X dX5_draw_22 rfl (fun a ha => c_X5_isName N lt b c ms rd m P x3 K.1.2.1 K.2.2.1.1 (kE K) a ha) (fun a => Zw_d _ _ _ _ _ _ _ _) gd_X5_154 rfl (n := 1) (by decide) rfl (by decide) (Nat.zero_le _) (fun q22_8 eq22_8 => ?_)
          show Rn K _ 0 0 _ 25 [(0, .ref (kB K + 0)), (1, vI x1), (2, vI x2), (3, vI x3)] [vI q22_8] (Zw (kE K) lt b c ms rd m P)
          refine r_ck1 (fun h9 => ?_)
          refine r_ifne (pc := 25) X h9 dX5_draw_25 (tgt := 33) (by decide) (fun h10 => ?_) (fun h10 => ?_)
          · refine r_aload_n (pc := 33) X 0 dX5_draw_33 rfl rfl ?_
            refine r_iload_n (pc := 34) X 3 dX5_draw_34 rfl rfl ?_
            refine r_aload_n (pc := 35) X 0 dX5_draw_35 rfl rfl ?_
            refine r_get (pc := 36) (v := .ref (kB K + 5)) X 0 11 inX5 rfl rfl (by decide) tf_X5_28 rfl dX5_draw_36 ?_
            refine r_iload_n (pc := 39) X 1 dX5_draw_39 rfl rfl ?_
            refine r_iload_n (pc := 40) X 2 dX5_draw_40 rfl rfl ?_
            refine r_callV (pc := 41) (q0 := 5) (ci := 0) (As := [vI x1, vI x2]) (rest := [vI x3, .ref (kB K + 0)]) (W' := fun q41_11 => (Zw (kE K) lt q41_11.2.1 c ms rd m q41_11.2.2)) (rv := fun q41_11 => some (vG (kB K) q41_11.1)) X dX5_draw_41 rfl (fun a ha => c_X0_drawn N lt b c ms rd m P x1 x2 K.1.2.1 K.2.2.1.1 (kE K) a ha) (fun a => Zw_d _ _ _ _ _ _ _ _) gd_X5_197 rfl (n := 2) (by decide) rfl (by decide) rfl rfl rfl (by simp [z_cat, z_catR, z_catI, z_catL]) (fun q41_11 eq41_11 => ?_)
            show Rn K _ 2 122 _ 44 [(0, .ref (kB K + 0)), (1, vI x1), (2, vI x2), (3, vI x3)] [vG (kB K) q41_11.1, vI x3, .ref (kB K + 0)] (Zw (kE K) lt q41_11.2.1 c ms rd m q41_11.2.2)
            refine r_callV (pc := 44) (q0 := 0) (ci := 5) (As := [vI x3, vG (kB K) q41_11.1]) (rest := []) (W' := fun q44_12 => (Zw (kE K) q44_12.2 q41_11.2.1 c ms rd m q41_11.2.2)) (rv := fun q44_12 => some (vI q44_12.1)) X dX5_draw_44 rfl (fun a ha => c_X5_give N lt q41_11.2.1 c ms rd m q41_11.2.2 x3 q41_11.1 K.1.2.1 K.2.2.1.1 (kE K) a ha) (fun a => Zw_d _ _ _ _ _ _ _ _) gd_X5_165 rfl (n := 2) (by decide) rfl (by decide) rfl rfl rfl (Nat.zero_le _) (fun q44_12 eq44_12 => ?_)
            show Rn K _ 2 122 _ 47 [(0, .ref (kB K + 0)), (1, vI x1), (2, vI x2), (3, vI x3)] [vI q44_12.1] (Zw (kE K) q44_12.2 q41_11.2.1 c ms rd m q41_11.2.2)
            exact r_iret (pc := 47) X rfl rfl (by decide) dX5_draw_47
          · refine r_sub [0] rfl ?_
            exact hj28
theorem c_X5_draw (N : Nat) (lt b c ms rd m : Bd) (P : PL) (x1 x2 x3 : Int) (l : Launch) (D : va_G) (E : ET) (a : Int × Bd × Bd × PL) (ha : f_X5_draw N lt b P x1 x2 x3 = some a) : Ct l yX5_draw (Cond.code yX5_draw cX5_draw 4 (some .int) :: lw_g) ({ frames := 6, cells := 2, slots := 122, locals := 143 } : Room) D E [.ref (E.2.2.2 + 0), vI x1, vI x2, vI x3] (Zw E lt b c ms rd m P) (Zw E a.2.1 a.2.2.1 c ms rd m a.2.2.2) (some (vI a.1)) :=
  ct_of (av := fun E => [.ref (E.2.2.2 + 0), vI x1, vI x2, vI x3]) (W0 := fun E => Zw E lt b c ms rd m P) (W1 := fun E (a : Int × Bd × Bd × PL) => Zw E a.2.1 a.2.2.1 c ms rd m a.2.2.2) (rw := fun E a => some (vI a.1)) (by decide) rfl (fun E => Zw_d E lt b c ms rd m P) (fun E => by simp [lg_sl, z_cat, z_catR, z_catI, z_catL]) (fun K X => r_lv (by simp [lv_args, z_cat, z_catR, z_catI, z_catL]) (t_X5_draw N lt b c ms rd m P x1 x2 x3 K X)) l D E a ha
abbrev Q_X5_back (K : KT) (lt b c ms rd m : Bd) (P : PL) : (Int × Bd) → State → Prop := Qm K ({ frames := 1, cells := 0, slots := 0, locals := 20 } : Room) (fun a : Int × Bd => Zw (kE K) a.2 b c ms rd m P) (fun a => some (vI a.1))
set_option maxRecDepth 100000 in
set_option maxHeartbeats 4000000 in
theorem t_X5_back_L46 (N : Nat) (lt b c ms rd m : Bd) (P : PL) (K : KT) (X : Kok K cX5_back yX5_back.cls lw_g ({ frames := 1, cells := 0, slots := 0, locals := 20 } : Room) (some .int) 2) (k : Bd → Option (Int × Bd)) (hk : ∀ (lt1 : Bd), Rn K (Q_X5_back K lt b c ms rd m P) 0 0 (k lt1) 78 [(0, .ref (kB K + 0))] [] (Zw (kE K) lt1 b c ms rd m P)) : ∀ (n : Nat) (x1 : Int) (lt1 : Bd), Rn K (Q_X5_back K lt b c ms rd m P) 0 0 (f_X5_back_L46 P k n x1 lt1) 46 [(0, .ref (kB K + 0)), (1, vI x1)] [] (Zw (kE K) lt1 b c ms rd m P) := by
  intro n
  induction n with
  | zero =>
    intro x1 lt1
    rw [f_X5_back_L46]
    exact r_none
  | succ n ih =>
    intro x1 lt1
    rw [f_X5_back_L46]
    refine r_iload_n (pc := 46) X 1 dX5_back_46 rfl rfl ?_
    refine r_bipush (pc := 47) X 8 dX5_back_47 (by decide) ?_
    refine r_ck1 (fun h3 => ?_)
    refine r_icmp_ge (pc := 49) X h3 (by decide) dX5_back_49 (tgt := 78) (by decide) (fun h4 => ?_) (fun h4 => ?_)
    · refine r_sub [0] rfl ?_
      exact hk lt1
    · refine r_aload_n (pc := 52) X 0 dX5_back_52 rfl rfl ?_
      refine r_get (pc := 53) (v := .ref (kB K + 2)) X 0 3 inX5 rfl rfl (by decide) tf_X5_15 rfl dX5_back_53 ?_
      refine r_iload_n (pc := 56) X 1 dX5_back_56 rfl rfl ?_
      refine r_aload_n (pc := 57) X 0 dX5_back_57 rfl rfl ?_
      refine r_get (pc := 58) (v := .ref (kB K + 4)) X 0 5 inX5 rfl rfl (by decide) tf_X5_22 rfl dX5_back_58 ?_
      refine r_aload_n (pc := 61) X 0 dX5_back_61 rfl rfl ?_
      refine r_get (pc := 62) (v := vI (lt1 6 0)) X 0 6 inX5 rfl rfl (by decide) tf_X5_204 rfl dX5_back_62 ?_
      refine r_bipush (pc := 65) X 8 dX5_back_65 (by decide) ?_
      refine r_imul (pc := 67) X dX5_back_67 ?_
      refine r_iload_n (pc := 68) X 1 dX5_back_68 rfl rfl ?_
      refine r_iadd (pc := 69) X dX5_back_69 ?_
      refine r_ckA (fun h5 => ?_)
      refine r_aald (pc := 70) (f := lt1 5) X 4 h5 zl_64 rfl dX5_back_70 ?_
      refine r_ckA (fun h6 => ?_)
      refine r_ckN (fun h7 => ?_)
      refine r_aastG (pc := 71) (f := lt1 3) (ws' := (Zw (kE K) (bS lt1 3 (aS (lt1 3) x1 (lt1 5 (((lt1 6 0) * 8) + x1)))) b c ms rd m P)) X 2 h6 zl_8 h7 rfl rfl dX5_back_71 ?_
      refine r_iinc (pc := 72) (lv' := [(0, .ref (kB K + 0)), (1, vI (x1 + 1))]) X 1 [1, 0] dX5_back_72 rfl (by decide) rfl ?_
      refine r_goto (pc := 75) X dX5_back_75 (tgt := 46) (by decide) ?_
      exact ih (x1 + 1) (bS lt1 3 (aS (lt1 3) x1 (lt1 5 (((lt1 6 0) * 8) + x1))))
set_option maxRecDepth 100000 in
set_option maxHeartbeats 4000000 in
theorem t_X5_back (N : Nat) (lt b c ms rd m : Bd) (P : PL) (K : KT) (X : Kok K cX5_back yX5_back.cls lw_g ({ frames := 1, cells := 0, slots := 0, locals := 20 } : Room) (some .int) 2) : Rn K (Q_X5_back K lt b c ms rd m P) 0 0 (f_X5_back N lt P) 0 [(0, .ref (kB K + 0))] [] (Zw (kE K) lt b c ms rd m P) := by
  unfold f_X5_back
  refine r_aload_n (pc := 0) X 0 dX5_back_0 rfl rfl ?_
  refine r_get (pc := 1) (v := vI (lt 7 0)) X 0 7 inX5 rfl rfl (by decide) tf_X5_201 rfl dX5_back_1 ?_
  refine r_ck1 (fun h1 => ?_)
  refine r_ifne (pc := 4) X h1 dX5_back_4 (tgt := 12) (by decide) (fun h2 => ?_) (fun h2 => ?_)
  · refine r_aload_n (pc := 12) X 0 dX5_back_12 rfl rfl ?_
    refine r_aload_n (pc := 13) X 0 dX5_back_13 rfl rfl ?_
    refine r_get (pc := 14) (v := vI (lt 6 0)) X 0 6 inX5 rfl rfl (by decide) tf_X5_204 rfl dX5_back_14 ?_
    refine r_jn (J := fun j31 => ∀ (s1_31 : Int), Rn K (Q_X5_back K lt b c ms rd m P) 0 0 (j31 s1_31) 31 [(0, .ref (kB K + 0))] [vI s1_31, .ref (kB K + 0)] (Zw (kE K) lt b c ms rd m P)) ?_ (fun j31 hj31 => ?_)
    · intro s1_31
      refine r_put (pc := 31) (ws' := (Zw (kE K) (bs0 lt 6 s1_31) b c ms rd m P)) X 0 6 inX5 tyX5 tyX5_ok nmX5 rfl rfl (by decide) tf_X5_204 rfl (tyX5_ok 6 (by decide)) rfl rfl (Nat.le_of_ble_eq_true rfl) rfl dX5_back_31 ?_
      refine r_aload_n (pc := 34) X 0 dX5_back_34 rfl rfl ?_
      refine r_dup (pc := 35) X dX5_back_35 rfl ?_
      refine r_get (pc := 36) (v := vI (lt 7 0)) X 0 7 inX5 rfl rfl (by decide) tf_X5_201 rfl dX5_back_36 ?_
      refine r_iconst (pc := 39) X 1 dX5_back_39 (by decide) ?_
      refine r_isub (pc := 40) X dX5_back_40 ?_
      refine r_put (pc := 41) (ws' := (Zw (kE K) (bs0 (bs0 lt 6 s1_31) 7 ((lt 7 0) - 1)) b c ms rd m P)) X 0 7 inX5 tyX5 tyX5_ok nmX5 rfl rfl (by decide) tf_X5_201 rfl (tyX5_ok 7 (by decide)) rfl rfl (Nat.le_of_ble_eq_true rfl) rfl dX5_back_41 ?_
      refine r_iconst (pc := 44) X 0 dX5_back_44 (by decide) ?_
      refine r_istore_n (pc := 45) (lv' := [(0, .ref (kB K + 0)), (1, vI 0)]) X [1, 0] dX5_back_45 rfl (by decide) rfl ?_
      refine t_X5_back_L46 N lt b c ms rd m P   K X _ ?_ N 0 (bs0 (bs0 lt 6 s1_31) 7 ((lt 7 0) - 1))
      intro lt_46
      refine r_aload_n (pc := 78) X 0 dX5_back_78 rfl rfl ?_
      refine r_get (pc := 79) (v := vI (lt_46 7 0)) X 0 7 inX5 rfl rfl (by decide) tf_X5_201 rfl dX5_back_79 ?_
      exact r_iret (pc := 82) X rfl rfl (by decide) dX5_back_82
    refine r_ck1 (fun h8 => ?_)
    refine r_ifne (pc := 17) X h8 dX5_back_17 (tgt := 25) (by decide) (fun h9 => ?_) (fun h9 => ?_)
    · refine r_aload_n (pc := 25) X 0 dX5_back_25 rfl rfl ?_
      refine r_get (pc := 26) (v := vI (lt 6 0)) X 0 6 inX5 rfl rfl (by decide) tf_X5_204 rfl dX5_back_26 ?_
      refine r_iconst (pc := 29) X 1 dX5_back_29 (by decide) ?_
      refine r_isub (pc := 30) X dX5_back_30 ?_
      exact hj31 ((lt 6 0) - 1)
    · refine r_bipush (pc := 20) X 7 dX5_back_20 (by decide) ?_
      refine r_goto (pc := 22) X dX5_back_22 (tgt := 31) (by decide) ?_
      exact hj31 7
  · refine r_aload_n (pc := 7) X 0 dX5_back_7 rfl rfl ?_
    refine r_callV (pc := 8) (q0 := 0) (ci := 5) (As := []) (rest := []) (W' := fun q8_10 => (Zw (kE K) q8_10.2 b c ms rd m P)) (rv := fun q8_10 => some (vI q8_10.1)) X dX5_back_8 rfl (fun a ha => c_X5_refuseNo N lt b c ms rd m P K.1.2.1 K.2.2.1.1 (kE K) a ha) (fun a => Zw_d _ _ _ _ _ _ _ _) gd_X5_175 rfl (n := 0) (by decide) rfl (by decide) rfl rfl rfl (Nat.zero_le _) (fun q8_10 eq8_10 => ?_)
    show Rn K _ 0 0 _ 11 [(0, .ref (kB K + 0))] [vI q8_10.1] (Zw (kE K) q8_10.2 b c ms rd m P)
    exact r_iret (pc := 11) X rfl rfl (by decide) dX5_back_11
theorem c_X5_back (N : Nat) (lt b c ms rd m : Bd) (P : PL) (l : Launch) (D : va_G) (E : ET) (a : Int × Bd) (ha : f_X5_back N lt P = some a) : Ct l yX5_back (Cond.code yX5_back cX5_back 2 (some .int) :: lw_g) ({ frames := 1, cells := 0, slots := 0, locals := 20 } : Room) D E [.ref (E.2.2.2 + 0)] (Zw E lt b c ms rd m P) (Zw E a.2 b c ms rd m P) (some (vI a.1)) :=
  ct_of (av := fun E => [.ref (E.2.2.2 + 0)]) (W0 := fun E => Zw E lt b c ms rd m P) (W1 := fun E (a : Int × Bd) => Zw E a.2 b c ms rd m P) (rw := fun E a => some (vI a.1)) (by decide) rfl (fun E => Zw_d E lt b c ms rd m P) (fun E => by simp [lg_sl, z_cat, z_catR, z_catI, z_catL]) (fun K X => r_lv (by simp [lv_args, z_cat, z_catR, z_catI, z_catL]) (t_X5_back N lt b c ms rd m P  K X)) l D E a ha
abbrev Q_X5_nameBits (K : KT) (lt b c ms rd m : Bd) (P : PL) : (Int) → State → Prop := Qm K ({ frames := 0, cells := 0, slots := 0, locals := 0 } : Room) (fun a : Int => Zw (kE K) lt b c ms rd m P) (fun a => some (vI a))
set_option maxRecDepth 100000 in
set_option maxHeartbeats 4000000 in
theorem t_X5_nameBits_L4 (N : Nat) (lt b c ms rd m : Bd) (P : PL) (K : KT) (X : Kok K cX5_nameBits yX5_nameBits.cls lw_g ({ frames := 0, cells := 0, slots := 0, locals := 0 } : Room) (some .int) 3) (k : Int → Option (Int)) (hk : ∀ (x1 : Int), Rn K (Q_X5_nameBits K lt b c ms rd m P) 0 0 (k x1) 31 [(1, vI x1)] [] (Zw (kE K) lt b c ms rd m P)) : ∀ (n : Nat) (x1 : Int) (x2 : Int), Rn K (Q_X5_nameBits K lt b c ms rd m P) 0 0 (f_X5_nameBits_L4 lt k n x1 x2) 4 [(0, .ref (kB K + 0)), (1, vI x1), (2, vI x2)] [] (Zw (kE K) lt b c ms rd m P) := by
  intro n
  induction n with
  | zero =>
    intro x1 x2
    rw [f_X5_nameBits_L4]
    exact r_none
  | succ n ih =>
    intro x1 x2
    rw [f_X5_nameBits_L4]
    refine r_iload_n (pc := 4) X 2 dX5_nameBits_4 rfl rfl ?_
    refine r_bipush (pc := 5) X 8 dX5_nameBits_5 (by decide) ?_
    refine r_ck1 (fun h1 => ?_)
    refine r_icmp_ge (pc := 7) X h1 (by decide) dX5_nameBits_7 (tgt := 31) (by decide) (fun h2 => ?_) (fun h2 => ?_)
    · refine r_sub [1] rfl ?_
      exact hk x1
    · refine r_aload_n (pc := 10) X 0 dX5_nameBits_10 rfl rfl ?_
      refine r_get (pc := 11) (v := .ref (kB K + 2)) X 0 3 inX5 rfl rfl (by decide) tf_X5_15 rfl dX5_nameBits_11 ?_
      refine r_iload_n (pc := 14) X 2 dX5_nameBits_14 rfl rfl ?_
      refine r_ckA (fun h3 => ?_)
      refine r_aald (pc := 15) (f := lt 3) X 2 h3 zl_8 rfl dX5_nameBits_15 ?_
      refine r_ifnull (pc := 16) X dX5_nameBits_16 (tgt := 25) (by decide) (fun h4 => ?_) (fun h4 => ?_)
      · refine r_iinc (pc := 25) (lv' := [(0, .ref (kB K + 0)), (1, vI x1), (2, vI (x2 + 1))]) X 2 [1, 2, 0] dX5_nameBits_25 rfl (by decide) rfl ?_
        refine r_goto (pc := 28) X dX5_nameBits_28 (tgt := 4) (by decide) ?_
        exact ih x1 (x2 + 1)
      · refine r_iload_n (pc := 19) X 1 dX5_nameBits_19 rfl rfl ?_
        refine r_iconst (pc := 20) X 1 dX5_nameBits_20 (by decide) ?_
        refine r_iload_n (pc := 21) X 2 dX5_nameBits_21 rfl rfl ?_
        refine r_ishl (pc := 22) X dX5_nameBits_22 ?_
        refine r_ior (pc := 23) X dX5_nameBits_23 ?_
        refine r_istore_n (pc := 24) (lv' := [(0, .ref (kB K + 0)), (1, vI (i_or x1 (i_shl 1 x2))), (2, vI x2)]) X [1, 0, 2] dX5_nameBits_24 rfl (by decide) rfl ?_
        refine r_iinc (pc := 25) (lv' := [(0, .ref (kB K + 0)), (1, vI (i_or x1 (i_shl 1 x2))), (2, vI (x2 + 1))]) X 2 [1, 2, 0] dX5_nameBits_25 rfl (by decide) rfl ?_
        refine r_goto (pc := 28) X dX5_nameBits_28 (tgt := 4) (by decide) ?_
        exact ih (i_or x1 (i_shl 1 x2)) (x2 + 1)
set_option maxRecDepth 100000 in
set_option maxHeartbeats 4000000 in
theorem t_X5_nameBits (N : Nat) (lt b c ms rd m : Bd) (P : PL) (K : KT) (X : Kok K cX5_nameBits yX5_nameBits.cls lw_g ({ frames := 0, cells := 0, slots := 0, locals := 0 } : Room) (some .int) 3) : Rn K (Q_X5_nameBits K lt b c ms rd m P) 0 0 (f_X5_nameBits N lt) 0 [(0, .ref (kB K + 0))] [] (Zw (kE K) lt b c ms rd m P) := by
  unfold f_X5_nameBits
  refine r_iconst (pc := 0) X 0 dX5_nameBits_0 (by decide) ?_
  refine r_istore_n (pc := 1) (lv' := [(0, .ref (kB K + 0)), (1, vI 0)]) X [1, 0] dX5_nameBits_1 rfl (by decide) rfl ?_
  refine r_iconst (pc := 2) X 0 dX5_nameBits_2 (by decide) ?_
  refine r_istore_n (pc := 3) (lv' := [(0, .ref (kB K + 0)), (1, vI 0), (2, vI 0)]) X [1, 2, 0] dX5_nameBits_3 rfl (by decide) rfl ?_
  refine t_X5_nameBits_L4 N lt b c ms rd m P   K X _ ?_ N 0 0
  intro x1_4
  refine r_iload_n (pc := 31) X 0 dX5_nameBits_31 rfl rfl ?_
  exact r_iret (pc := 32) X rfl rfl (by decide) dX5_nameBits_32
theorem c_X5_nameBits (N : Nat) (lt b c ms rd m : Bd) (P : PL) (l : Launch) (D : va_G) (E : ET) (a : Int) (ha : f_X5_nameBits N lt = some a) : Ct l yX5_nameBits (Cond.code yX5_nameBits cX5_nameBits 3 (some .int) :: lw_g) ({ frames := 0, cells := 0, slots := 0, locals := 0 } : Room) D E [.ref (E.2.2.2 + 0)] (Zw E lt b c ms rd m P) (Zw E lt b c ms rd m P) (some (vI a)) :=
  ct_of (av := fun E => [.ref (E.2.2.2 + 0)]) (W0 := fun E => Zw E lt b c ms rd m P) (W1 := fun E (a : Int) => Zw E lt b c ms rd m P) (rw := fun E a => some (vI a)) (by decide) rfl (fun E => Zw_d E lt b c ms rd m P) (fun E => by simp [lg_sl, z_cat, z_catR, z_catI, z_catL]) (fun K X => r_lv (by simp [lv_args, z_cat, z_catR, z_catI, z_catL]) (t_X5_nameBits N lt b c ms rd m P  K X)) l D E a ha
abbrev Q_X5_reportOf (K : KT) (lt b c ms rd m : Bd) (P : PL) : (Int) → State → Prop := Qm K ({ frames := 1, cells := 0, slots := 0, locals := 22 } : Room) (fun a : Int => Zw (kE K) lt b c ms rd m P) (fun a => some (vI a))
set_option maxRecDepth 100000 in
set_option maxHeartbeats 4000000 in
theorem t_X5_reportOf (N : Nat) (lt b c ms rd m : Bd) (P : PL) (x1 : Int) (K : KT) (X : Kok K cX5_reportOf yX5_reportOf.cls lw_g ({ frames := 1, cells := 0, slots := 0, locals := 22 } : Room) (some .int) 2) : Rn K (Q_X5_reportOf K lt b c ms rd m P) 0 0 (f_X5_reportOf N lt x1) 0 [(0, .ref (kB K + 0)), (1, vI x1)] [] (Zw (kE K) lt b c ms rd m P) := by
  unfold f_X5_reportOf
  refine r_iload_n (pc := 0) X 1 dX5_reportOf_0 rfl rfl ?_
  refine r_ck1 (fun h1 => ?_)
  refine r_case (fun h3 => ?_) (fun h3 => ?_)
  · refine r_tableIn (pc := 1) X 0 h3 (by decide) dX5_reportOf_1 (by decide) rfl (tgt := 40) (by decide) ?_
    refine r_aload_n (pc := 40) X 0 dX5_reportOf_40 rfl rfl ?_
    refine r_get (pc := 41) (v := vI (lt 8 0)) X 0 8 inX5 rfl rfl (by decide) tf_X5_214 rfl dX5_reportOf_41 ?_
    exact r_iret (pc := 44) X rfl rfl (by decide) dX5_reportOf_44
  refine r_case (fun h4 => ?_) (fun h4 => ?_)
  · refine r_tableIn (pc := 1) X 1 h4 (by decide) dX5_reportOf_1 (by decide) rfl (tgt := 45) (by decide) ?_
    refine r_aload_n (pc := 45) X 0 dX5_reportOf_45 rfl rfl ?_
    refine r_get (pc := 46) (v := vI (lt 9 0)) X 0 9 inX5 rfl rfl (by decide) tf_X5_217 rfl dX5_reportOf_46 ?_
    exact r_iret (pc := 49) X rfl rfl (by decide) dX5_reportOf_49
  refine r_case (fun h5 => ?_) (fun h5 => ?_)
  · refine r_tableIn (pc := 1) X 2 h5 (by decide) dX5_reportOf_1 (by decide) rfl (tgt := 50) (by decide) ?_
    refine r_aload_n (pc := 50) X 0 dX5_reportOf_50 rfl rfl ?_
    refine r_get (pc := 51) (v := vI (lt 10 0)) X 0 10 inX5 rfl rfl (by decide) tf_X5_220 rfl dX5_reportOf_51 ?_
    exact r_iret (pc := 54) X rfl rfl (by decide) dX5_reportOf_54
  refine r_case (fun h6 => ?_) (fun h6 => ?_)
  · refine r_tableIn (pc := 1) X 3 h6 (by decide) dX5_reportOf_1 (by decide) rfl (tgt := 55) (by decide) ?_
    refine r_aload_n (pc := 55) X 0 dX5_reportOf_55 rfl rfl ?_
    refine r_get (pc := 56) (v := vI (lt 7 0)) X 0 7 inX5 rfl rfl (by decide) tf_X5_201 rfl dX5_reportOf_56 ?_
    exact r_iret (pc := 59) X rfl rfl (by decide) dX5_reportOf_59
  refine r_case (fun h7 => ?_) (fun h7 => ?_)
  · refine r_tableIn (pc := 1) X 4 h7 (by decide) dX5_reportOf_1 (by decide) rfl (tgt := 60) (by decide) ?_
    refine r_aload_n (pc := 60) X 0 dX5_reportOf_60 rfl rfl ?_
    refine r_get (pc := 61) (v := vI (lt 1 0)) X 0 1 inX5 rfl rfl (by decide) tf_X5_57 rfl dX5_reportOf_61 ?_
    exact r_iret (pc := 64) X rfl rfl (by decide) dX5_reportOf_64
  refine r_case (fun h8 => ?_) (fun h8 => ?_)
  · refine r_tableIn (pc := 1) X 5 h8 (by decide) dX5_reportOf_1 (by decide) rfl (tgt := 65) (by decide) ?_
    refine r_aload_n (pc := 65) X 0 dX5_reportOf_65 rfl rfl ?_
    refine r_get (pc := 66) (v := vI (lt 2 0)) X 0 2 inX5 rfl rfl (by decide) tf_X5_89 rfl dX5_reportOf_66 ?_
    exact r_iret (pc := 69) X rfl rfl (by decide) dX5_reportOf_69
  refine r_tableOut (pc := 1) X h1 dX5_reportOf_1 (by omega) (tgt := 70) (by decide) ?_
  refine r_aload_n (pc := 70) X 0 dX5_reportOf_70 rfl rfl ?_
  refine r_callV (pc := 71) (q0 := 0) (ci := 5) (As := []) (rest := []) (W' := fun q71_9 => (Zw (kE K) lt b c ms rd m P)) (rv := fun q71_9 => some (vI q71_9)) X dX5_reportOf_71 rfl (fun a ha => c_X5_nameBits N lt b c ms rd m P K.1.2.1 K.2.2.1.1 (kE K) a ha) (fun a => Zw_d _ _ _ _ _ _ _ _) gd_X5_228 rfl (n := 0) (by decide) rfl (by decide) rfl rfl rfl (Nat.zero_le _) (fun q71_9 eq71_9 => ?_)
  show Rn K _ 0 0 _ 74 [(0, .ref (kB K + 0)), (1, vI x1)] [vI q71_9] (Zw (kE K) lt b c ms rd m P)
  exact r_iret (pc := 74) X rfl rfl (by decide) dX5_reportOf_74
theorem c_X5_reportOf (N : Nat) (lt b c ms rd m : Bd) (P : PL) (x1 : Int) (l : Launch) (D : va_G) (E : ET) (a : Int) (ha : f_X5_reportOf N lt x1 = some a) : Ct l yX5_reportOf (Cond.code yX5_reportOf cX5_reportOf 2 (some .int) :: lw_g) ({ frames := 1, cells := 0, slots := 0, locals := 22 } : Room) D E [.ref (E.2.2.2 + 0), vI x1] (Zw E lt b c ms rd m P) (Zw E lt b c ms rd m P) (some (vI a)) :=
  ct_of (av := fun E => [.ref (E.2.2.2 + 0), vI x1]) (W0 := fun E => Zw E lt b c ms rd m P) (W1 := fun E (a : Int) => Zw E lt b c ms rd m P) (rw := fun E a => some (vI a)) (by decide) rfl (fun E => Zw_d E lt b c ms rd m P) (fun E => by simp [lg_sl, z_cat, z_catR, z_catI, z_catL]) (fun K X => r_lv (by simp [lv_args, z_cat, z_catR, z_catI, z_catL]) (t_X5_reportOf N lt b c ms rd m P x1 K X)) l D E a ha
abbrev Q_X5_told (K : KT) (lt b c ms rd m : Bd) (P : PL) : (Int × Bd) → State → Prop := Qm K ({ frames := 2, cells := 0, slots := 0, locals := 43 } : Room) (fun a : Int × Bd => Zw (kE K) a.2 b c ms rd m P) (fun a => some (vI a.1))
set_option maxRecDepth 100000 in
set_option maxHeartbeats 4000000 in
theorem t_X5_told (N : Nat) (lt b c ms rd m : Bd) (P : PL) (x1 : Int) (K : KT) (X : Kok K cX5_told yX5_told.cls lw_g ({ frames := 2, cells := 0, slots := 0, locals := 43 } : Room) (some .int) 2) : Rn K (Q_X5_told K lt b c ms rd m P) 0 0 (f_X5_told N lt x1) 0 [(0, .ref (kB K + 0)), (1, vI x1)] [] (Zw (kE K) lt b c ms rd m P) := by
  unfold f_X5_told
  refine r_iload_n (pc := 0) X 1 dX5_told_0 rfl rfl ?_
  refine r_jn (J := fun j10 => Rn K (Q_X5_told K lt b c ms rd m P) 0 0 j10 10 [(0, .ref (kB K + 0))] [] (Zw (kE K) lt b c ms rd m P)) ?_ (fun j10 hj10 => ?_)
  · skip
    refine r_aload_n (pc := 10) X 0 dX5_told_10 rfl rfl ?_
    refine r_callV (pc := 11) (q0 := 0) (ci := 5) (As := []) (rest := []) (W' := fun q11_1 => (Zw (kE K) q11_1.2 b c ms rd m P)) (rv := fun q11_1 => some (vI q11_1.1)) X dX5_told_11 rfl (fun a ha => c_X5_refuseBad N lt b c ms rd m P K.1.2.1 K.2.2.1.1 (kE K) a ha) (fun a => Zw_d _ _ _ _ _ _ _ _) gd_X5_53 rfl (n := 0) (by decide) rfl (by decide) rfl rfl rfl (Nat.zero_le _) (fun q11_1 eq11_1 => ?_)
    show Rn K _ 0 0 _ 14 [(0, .ref (kB K + 0))] [vI q11_1.1] (Zw (kE K) q11_1.2 b c ms rd m P)
    exact r_iret (pc := 14) X rfl rfl (by decide) dX5_told_14
  refine r_ck1 (fun h2 => ?_)
  refine r_iflt (pc := 1) X h2 dX5_told_1 (tgt := 10) (by decide) (fun h3 => ?_) (fun h3 => ?_)
  · refine r_sub [0] rfl ?_
    exact hj10
  · refine r_iload_n (pc := 4) X 1 dX5_told_4 rfl rfl ?_
    refine r_bipush (pc := 5) X 7 dX5_told_5 (by decide) ?_
    refine r_icmp_lt (pc := 7) X h2 (by decide) dX5_told_7 (tgt := 15) (by decide) (fun h4 => ?_) (fun h4 => ?_)
    · refine r_aload_n (pc := 15) X 0 dX5_told_15 rfl rfl ?_
      refine r_iload_n (pc := 16) X 1 dX5_told_16 rfl rfl ?_
      refine r_callV (pc := 17) (q0 := 0) (ci := 5) (As := [vI x1]) (rest := []) (W' := fun q17_5 => (Zw (kE K) lt b c ms rd m P)) (rv := fun q17_5 => some (vI q17_5)) X dX5_told_17 rfl (fun a ha => c_X5_reportOf N lt b c ms rd m P x1 K.1.2.1 K.2.2.1.1 (kE K) a ha) (fun a => Zw_d _ _ _ _ _ _ _ _) gd_X5_207 rfl (n := 1) (by decide) rfl (by decide) rfl rfl rfl (Nat.zero_le _) (fun q17_5 eq17_5 => ?_)
      show Rn K _ 0 0 _ 20 [(0, .ref (kB K + 0)), (1, vI x1)] [vI q17_5] (Zw (kE K) lt b c ms rd m P)
      exact r_iret (pc := 20) X rfl rfl (by decide) dX5_told_20
    · refine r_sub [0] rfl ?_
      exact hj10
theorem c_X5_told (N : Nat) (lt b c ms rd m : Bd) (P : PL) (x1 : Int) (l : Launch) (D : va_G) (E : ET) (a : Int × Bd) (ha : f_X5_told N lt x1 = some a) : Ct l yX5_told (Cond.code yX5_told cX5_told 2 (some .int) :: lw_g) ({ frames := 2, cells := 0, slots := 0, locals := 43 } : Room) D E [.ref (E.2.2.2 + 0), vI x1] (Zw E lt b c ms rd m P) (Zw E a.2 b c ms rd m P) (some (vI a.1)) :=
  ct_of (av := fun E => [.ref (E.2.2.2 + 0), vI x1]) (W0 := fun E => Zw E lt b c ms rd m P) (W1 := fun E (a : Int × Bd) => Zw E a.2 b c ms rd m P) (rw := fun E a => some (vI a.1)) (by decide) rfl (fun E => Zw_d E lt b c ms rd m P) (fun E => by simp [lg_sl, z_cat, z_catR, z_catI, z_catL]) (fun K X => r_lv (by simp [lv_args, z_cat, z_catR, z_catI, z_catL]) (t_X5_told N lt b c ms rd m P x1 K X)) l D E a ha
abbrev Q_X5_digest (K : KT) (lt b c ms rd m : Bd) (P : PL) : (Int) → State → Prop := Qm K ({ frames := 4, cells := 0, slots := 0, locals := 88 } : Room) (fun a : Int => Zw (kE K) lt b c ms rd m P) (fun a => some (vL a))
set_option maxRecDepth 100000 in
set_option maxHeartbeats 4000000 in
theorem t_X5_digest_L6 (N : Nat) (lt b c ms rd m : Bd) (P : PL) (K : KT) (X : Kok K cX5_digest yX5_digest.cls lw_g ({ frames := 4, cells := 0, slots := 0, locals := 88 } : Room) (some .long) 5) (k : Int → Option (Int)) (hk : ∀ (x1 : Int), Rn K (Q_X5_digest K lt b c ms rd m P) 0 0 (k x1) 31 [(0, .ref (kB K + 0)), (1, vL x1)] [] (Zw (kE K) lt b c ms rd m P)) : ∀ (n : Nat) (x1 : Int) (x3 : Int), Rn K (Q_X5_digest K lt b c ms rd m P) 0 0 (f_X5_digest_L6 N lt k n x1 x3) 6 [(0, .ref (kB K + 0)), (1, vL x1), (3, vI x3)] [] (Zw (kE K) lt b c ms rd m P) := by
  intro n
  induction n with
  | zero =>
    intro x1 x3
    rw [f_X5_digest_L6]
    exact r_none
  | succ n ih =>
    intro x1 x3
    rw [f_X5_digest_L6]
    refine r_iload_n (pc := 6) X 2 dX5_digest_6 rfl rfl ?_
    refine r_bipush (pc := 7) X 7 dX5_digest_7 (by decide) ?_
    refine r_ck1 (fun h1 => ?_)
    refine r_icmp_ge (pc := 9) X h1 (by decide) dX5_digest_9 (tgt := 31) (by decide) (fun h2 => ?_) (fun h2 => ?_)
    · refine r_sub [0, 1] rfl ?_
      exact hk x1
    · refine r_ldc2 (pc := 12) X 31 tk_X5_212 dX5_digest_12 ?_
      refine r_lload_n (pc := 15) X 1 dX5_digest_15 rfl rfl ?_
      refine r_lmul (pc := 16) X dX5_digest_16 ?_
      refine r_aload_n (pc := 17) X 0 dX5_digest_17 rfl rfl ?_
      refine r_iload_n (pc := 18) X 2 dX5_digest_18 rfl rfl ?_
      refine r_callV (pc := 19) (q0 := 0) (ci := 5) (As := [vI x3]) (rest := [vL (31 * x1)]) (W' := fun q19_3 => (Zw (kE K) lt b c ms rd m P)) (rv := fun q19_3 => some (vI q19_3)) X dX5_digest_19 rfl (fun a ha => c_X5_reportOf N lt b c ms rd m P x3 K.1.2.1 K.2.2.1.1 (kE K) a ha) (fun a => Zw_d _ _ _ _ _ _ _ _) gd_X5_207 rfl (n := 1) (by decide) rfl (by decide) rfl rfl rfl (by simp [z_cat, z_catR, z_catI, z_catL]) (fun q19_3 eq19_3 => ?_)
      show Rn K _ 0 0 _ 22 [(0, .ref (kB K + 0)), (1, vL x1), (3, vI x3)] [vI q19_3, vL (31 * x1)] (Zw (kE K) lt b c ms rd m P)
      refine r_ck1 (fun h4 => ?_)
      refine r_i2l (pc := 22) X h4 dX5_digest_22 ?_
      refine r_ladd (pc := 23) X dX5_digest_23 ?_
      refine r_lstore_n (pc := 24) (lv' := [(0, .ref (kB K + 0)), (1, vL ((31 * x1) + q19_3)), (3, vI x3)]) X [1, 0, 2] dX5_digest_24 rfl (by decide) rfl ?_
      refine r_iinc (pc := 25) (lv' := [(0, .ref (kB K + 0)), (1, vL ((31 * x1) + q19_3)), (3, vI (x3 + 1))]) X 2 [1, 2, 0] dX5_digest_25 rfl (by decide) rfl ?_
      refine r_goto (pc := 28) X dX5_digest_28 (tgt := 6) (by decide) ?_
      exact ih ((31 * x1) + q19_3) (x3 + 1)
set_option maxRecDepth 100000 in
set_option maxHeartbeats 4000000 in
theorem t_X5_digest_L33 (N : Nat) (lt b c ms rd m : Bd) (P : PL) (K : KT) (X : Kok K cX5_digest yX5_digest.cls lw_g ({ frames := 4, cells := 0, slots := 0, locals := 88 } : Room) (some .long) 5) (k : Int → Option (Int)) (hk : ∀ (x1 : Int), Rn K (Q_X5_digest K lt b c ms rd m P) 0 0 (k x1) 74 [(1, vL x1)] [] (Zw (kE K) lt b c ms rd m P)) : ∀ (n : Nat) (x1 : Int) (x3 : Int), Rn K (Q_X5_digest K lt b c ms rd m P) 0 0 (f_X5_digest_L33 N lt P k n x1 x3) 33 [(0, .ref (kB K + 0)), (1, vL x1), (3, vI x3)] [] (Zw (kE K) lt b c ms rd m P) := by
  intro n
  induction n with
  | zero =>
    intro x1 x3
    rw [f_X5_digest_L33]
    exact r_none
  | succ n ih =>
    intro x1 x3
    rw [f_X5_digest_L33]
    refine r_iload_n (pc := 33) X 2 dX5_digest_33 rfl rfl ?_
    refine r_bipush (pc := 34) X 8 dX5_digest_34 (by decide) ?_
    refine r_ck1 (fun h5 => ?_)
    refine r_icmp_ge (pc := 36) X h5 (by decide) dX5_digest_36 (tgt := 74) (by decide) (fun h6 => ?_) (fun h6 => ?_)
    · refine r_sub [1] rfl ?_
      exact hk x1
    · refine r_aload_n (pc := 39) X 0 dX5_digest_39 rfl rfl ?_
      refine r_get (pc := 40) (v := .ref (kB K + 2)) X 0 3 inX5 rfl rfl (by decide) tf_X5_15 rfl dX5_digest_40 ?_
      refine r_iload_n (pc := 43) X 2 dX5_digest_43 rfl rfl ?_
      refine r_ckA (fun h7 => ?_)
      refine r_aald (pc := 44) (f := lt 3) X 2 h7 zl_8 rfl dX5_digest_44 ?_
      refine r_gstore (pc := 45) (lv' := [(0, .ref (kB K + 0)), (1, vL x1), (3, vI x3), (4, vG (kB K) (lt 3 x3))]) X [1, 2, 3, 0] dX5_digest_45 (by decide) rfl ?_
      refine r_ldc2 (pc := 47) X 31 tk_X5_212 dX5_digest_47 ?_
      refine r_lload_n (pc := 50) X 1 dX5_digest_50 rfl rfl ?_
      refine r_lmul (pc := 51) X dX5_digest_51 ?_
      refine r_gload (pc := 52) X 3 dX5_digest_52 rfl ?_
      refine r_ifnonnull (pc := 54) X dX5_digest_54 (tgt := 61) (by decide) (fun h8 => ?_) (fun h8 => ?_)
      · refine r_lconst (pc := 57) X 0 dX5_digest_57 (by decide) ?_
        refine r_goto (pc := 58) X dX5_digest_58 (tgt := 66) (by decide) ?_
        refine r_ladd (pc := 66) X dX5_digest_66 ?_
        refine r_lstore_n (pc := 67) (lv' := [(0, .ref (kB K + 0)), (1, vL ((31 * x1) + 0)), (3, vI x3), (4, vG (kB K) (lt 3 x3))]) X [1, 0, 2, 3] dX5_digest_67 rfl (by decide) rfl ?_
        refine r_iinc (pc := 68) (lv' := [(0, .ref (kB K + 0)), (1, vL ((31 * x1) + 0)), (3, vI (x3 + 1)), (4, vG (kB K) (lt 3 x3))]) X 2 [1, 2, 0, 3] dX5_digest_68 rfl (by decide) rfl ?_
        refine r_goto (pc := 71) X dX5_digest_71 (tgt := 33) (by decide) ?_
        refine r_sub [0, 1, 2] rfl ?_
        exact ih ((31 * x1) + 0) (x3 + 1)
      · refine r_gload (pc := 61) X 3 dX5_digest_61 rfl ?_
        refine r_ckG (fun h9 => ?_)
        refine r_rf0 h9.1 ?_
        refine r_callV (pc := 63) (q0 := (62 + 2 * (lt 3 x3).toNat)) (ci := 2) (As := []) (rest := [vL (31 * x1)]) (W' := fun q63_10 => (Zw (kE K) lt b c ms rd m P)) (rv := fun q63_10 => some (vL q63_10)) X dX5_digest_63 rfl (fun a ha => c_X2_codeOf N lt b c ms rd m P (lt 3 x3) h9 K.1.2.1 K.2.2.1.1 (kE K) a ha) (fun a => Zw_d _ _ _ _ _ _ _ _) gd_X5_131 rfl (n := 0) (by decide) rfl (by decide) rfl rfl (zg_gobj h9) (by simp [z_cat, z_catR, z_catI, z_catL]) (fun q63_10 eq63_10 => ?_)
        show Rn K _ 0 0 _ 66 [(0, .ref (kB K + 0)), (1, vL x1), (3, vI x3), (4, vG (kB K) (lt 3 x3))] [vL q63_10, vL (31 * x1)] (Zw (kE K) lt b c ms rd m P)
        refine r_ladd (pc := 66) X dX5_digest_66 ?_
        refine r_lstore_n (pc := 67) (lv' := [(0, .ref (kB K + 0)), (1, vL ((31 * x1) + q63_10)), (3, vI x3), (4, vG (kB K) (lt 3 x3))]) X [1, 0, 2, 3] dX5_digest_67 rfl (by decide) rfl ?_
        refine r_iinc (pc := 68) (lv' := [(0, .ref (kB K + 0)), (1, vL ((31 * x1) + q63_10)), (3, vI (x3 + 1)), (4, vG (kB K) (lt 3 x3))]) X 2 [1, 2, 0, 3] dX5_digest_68 rfl (by decide) rfl ?_
        refine r_goto (pc := 71) X dX5_digest_71 (tgt := 33) (by decide) ?_
        refine r_sub [0, 1, 2] rfl ?_
        exact ih ((31 * x1) + q63_10) (x3 + 1)
set_option maxRecDepth 100000 in
set_option maxHeartbeats 4000000 in
theorem t_X5_digest (N : Nat) (lt b c ms rd m : Bd) (P : PL) (K : KT) (X : Kok K cX5_digest yX5_digest.cls lw_g ({ frames := 4, cells := 0, slots := 0, locals := 88 } : Room) (some .long) 5) : Rn K (Q_X5_digest K lt b c ms rd m P) 0 0 (f_X5_digest N lt P) 0 [(0, .ref (kB K + 0))] [] (Zw (kE K) lt b c ms rd m P) := by
  unfold f_X5_digest
  refine r_ldc2 (pc := 0) X 1901 tk_X5_210 dX5_digest_0 ?_
  refine r_lstore_n (pc := 3) (lv' := [(0, .ref (kB K + 0)), (1, vL 1901)]) X [1, 0] dX5_digest_3 rfl (by decide) rfl ?_
  refine r_iconst (pc := 4) X 0 dX5_digest_4 (by decide) ?_
  refine r_istore_n (pc := 5) (lv' := [(0, .ref (kB K + 0)), (1, vL 1901), (3, vI 0)]) X [1, 2, 0] dX5_digest_5 rfl (by decide) rfl ?_
  refine t_X5_digest_L6 N lt b c ms rd m P   K X _ ?_ N 1901 0
  intro x1_6
  refine r_iconst (pc := 31) X 0 dX5_digest_31 (by decide) ?_
  refine r_istore_n (pc := 32) (lv' := [(0, .ref (kB K + 0)), (1, vL x1_6), (3, vI 0)]) X [1, 2, 0] dX5_digest_32 rfl (by decide) rfl ?_
  refine t_X5_digest_L33 N lt b c ms rd m P   K X _ ?_ N x1_6 0
  intro x1_33
  refine r_lload_n (pc := 74) X 0 dX5_digest_74 rfl rfl ?_
  exact r_lret (pc := 75) X rfl rfl (by decide) dX5_digest_75
theorem c_X5_digest (N : Nat) (lt b c ms rd m : Bd) (P : PL) (l : Launch) (D : va_G) (E : ET) (a : Int) (ha : f_X5_digest N lt P = some a) : Ct l yX5_digest (Cond.code yX5_digest cX5_digest 5 (some .long) :: lw_g) ({ frames := 4, cells := 0, slots := 0, locals := 88 } : Room) D E [.ref (E.2.2.2 + 0)] (Zw E lt b c ms rd m P) (Zw E lt b c ms rd m P) (some (vL a)) :=
  ct_of (av := fun E => [.ref (E.2.2.2 + 0)]) (W0 := fun E => Zw E lt b c ms rd m P) (W1 := fun E (a : Int) => Zw E lt b c ms rd m P) (rw := fun E a => some (vL a)) (by decide) rfl (fun E => Zw_d E lt b c ms rd m P) (fun E => by simp [lg_sl, z_cat, z_catR, z_catI, z_catL]) (fun K X => r_lv (by simp [lv_args, z_cat, z_catR, z_catI, z_catL]) (t_X5_digest N lt b c ms rd m P  K X)) l D E a ha
