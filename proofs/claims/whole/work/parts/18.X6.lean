abbrev Q_X6_looping (K : KT) (lt b c ms rd m : Bd) (P : PL) : (Int × Bd) → State → Prop := Qm K ({ frames := 3, cells := 0, slots := 0, locals := 63 } : Room) (fun a : Int × Bd => Zw (kE K) lt b c ms rd a.2 P) (fun a => some (vI a.1))
set_option maxRecDepth 100000 in
set_option maxHeartbeats 4000000 in
theorem t_X6_looping_L97 (N : Nat) (lt b c ms rd m : Bd) (P : PL) (m1 : Bd) (x1 x2 x3 x6 x7 x8 x9 : Int) (K : KT) (X : Kok K cX6_looping yX6_looping.cls lw_g ({ frames := 3, cells := 0, slots := 0, locals := 63 } : Room) (some .int) 11) (k : Int → Option (Int × Bd)) (hk : ∀ (x4 : Int), Rn K (Q_X6_looping K lt b c ms rd m P) 0 0 (k x4) 135 [(0, .ref (kB K + 35)), (1, vI x1), (2, vI x2), (3, vI x3), (4, vL x4), (6, vI x6), (7, vI x7)] [] (Zw (kE K) lt b c ms rd m1 P)) : ∀ (n : Nat) (x4 : Int) (x10 : Int), Rn K (Q_X6_looping K lt b c ms rd m P) 0 0 (f_X6_looping_L97 x1 x2 x3 x6 x7 x8 x9 k n x4 x10) 97 [(0, .ref (kB K + 35)), (1, vI x1), (2, vI x2), (3, vI x3), (4, vL x4), (6, vI x6), (7, vI x7), (8, vI x8), (9, vI x9), (10, vI x10)] [] (Zw (kE K) lt b c ms rd m1 P) := by
  intro n
  induction n with
  | zero =>
    intro x4 x10
    rw [f_X6_looping_L97]
    exact r_none
  | succ n ih =>
    intro x4 x10
    rw [f_X6_looping_L97]
    refine r_iload (pc := 97) X 9 dX6_looping_97 rfl ?_
    refine r_iload (pc := 99) X 7 dX6_looping_99 rfl ?_
    refine r_callS (pc := 101) (As := [vI x8]) (rest := [vI x10]) (W' := fun q101_17 => (Zw (kE K) lt b c ms rd m1 P)) (rv := fun q101_17 => some (vI q101_17)) X dX6_looping_101 rfl (fun a ha => c_X6_headOf N lt b c ms rd m1 P x8 K.1.2.1 K.2.2.1.1 (kE K) a ha) (fun a => Zw_d _ _ _ _ _ _ _ _) gd_X6_102 rfl (n := 1) (by decide) rfl (by decide) (by simp [z_cat, z_catR, z_catI, z_catL]) (fun q101_17 eq101_17 => ?_)
    show Rn K _ 0 0 _ 104 [(0, .ref (kB K + 35)), (1, vI x1), (2, vI x2), (3, vI x3), (4, vL x4), (6, vI x6), (7, vI x7), (8, vI x8), (9, vI x9), (10, vI x10)] [vI q101_17, vI x10] (Zw (kE K) lt b c ms rd m1 P)
    refine r_callS (pc := 104) (As := [vI q101_17]) (rest := [vI x10]) (W' := fun q104_18 => (Zw (kE K) lt b c ms rd m1 P)) (rv := fun q104_18 => some (vI q104_18)) X dX6_looping_104 rfl (fun a ha => c_X6_parts N lt b c ms rd m1 P q101_17 K.1.2.1 K.2.2.1.1 (kE K) a ha) (fun a => Zw_d _ _ _ _ _ _ _ _) gd_X6_113 rfl (n := 1) (by decide) rfl (by decide) (by simp [z_cat, z_catR, z_catI, z_catL]) (fun q104_18 eq104_18 => ?_)
    show Rn K _ 0 0 _ 107 [(0, .ref (kB K + 35)), (1, vI x1), (2, vI x2), (3, vI x3), (4, vL x4), (6, vI x6), (7, vI x7), (8, vI x8), (9, vI x9), (10, vI x10)] [vI q104_18, vI x10] (Zw (kE K) lt b c ms rd m1 P)
    refine r_ck1 (fun h19 => ?_)
    refine r_ck1 (fun h20 => ?_)
    refine r_icmp_ge (pc := 107) X h19 h20 dX6_looping_107 (tgt := 135) (by decide) (fun h21 => ?_) (fun h21 => ?_)
    · refine r_sub [0, 1, 2, 3, 4, 5, 6] rfl ?_
      exact hk x4
    · refine r_iload (pc := 110) X 8 dX6_looping_110 rfl ?_
      refine r_ck1 (fun h22 => ?_)
      refine r_ifeq (pc := 112) X h22 dX6_looping_112 (tgt := 135) (by decide) (fun h23 => ?_) (fun h23 => ?_)
      · refine r_sub [0, 1, 2, 3, 4, 5, 6] rfl ?_
        exact hk x4
      · refine r_lload (pc := 115) X 4 dX6_looping_115 rfl ?_
        refine r_lconst (pc := 117) X 1 dX6_looping_117 (by decide) ?_
        refine r_iload (pc := 118) X 7 dX6_looping_118 rfl ?_
        refine r_iload (pc := 120) X 9 dX6_looping_120 rfl ?_
        refine r_callS (pc := 122) (As := [vI x8, vI x10]) (rest := [vL 1, vL x4]) (W' := fun q122_24 => (Zw (kE K) lt b c ms rd m1 P)) (rv := fun q122_24 => some (vI q122_24)) X dX6_looping_122 rfl (fun a ha => c_X6_partOf N lt b c ms rd m1 P x8 x10 K.1.2.1 K.2.2.1.1 (kE K) a ha) (fun a => Zw_d _ _ _ _ _ _ _ _) gd_X6_106 rfl (n := 2) (by decide) rfl (by decide) (by simp [z_cat, z_catR, z_catI, z_catL]) (fun q122_24 eq122_24 => ?_)
        show Rn K _ 0 0 _ 125 [(0, .ref (kB K + 35)), (1, vI x1), (2, vI x2), (3, vI x3), (4, vL x4), (6, vI x6), (7, vI x7), (8, vI x8), (9, vI x9), (10, vI x10)] [vI q122_24, vL 1, vL x4] (Zw (kE K) lt b c ms rd m1 P)
        refine r_lshl (pc := 125) X dX6_looping_125 ?_
        refine r_lor (pc := 126) X dX6_looping_126 ?_
        refine r_lstore (pc := 127) (lv' := [(0, .ref (kB K + 35)), (1, vI x1), (2, vI x2), (3, vI x3), (4, vL (l_or x4 (l_shl 1 q122_24))), (6, vI x6), (7, vI x7), (8, vI x8), (9, vI x9), (10, vI x10)]) X [1, 2, 3, 4, 0, 5, 6, 7, 8, 9] dX6_looping_127 (by decide) rfl ?_
        refine r_iinc (pc := 129) (lv' := [(0, .ref (kB K + 35)), (1, vI x1), (2, vI x2), (3, vI x3), (4, vL (l_or x4 (l_shl 1 q122_24))), (6, vI x6), (7, vI x7), (8, vI x8), (9, vI x9), (10, vI (x10 + 1))]) X 9 [1, 2, 3, 4, 5, 6, 7, 8, 9, 0] dX6_looping_129 rfl (by decide) rfl ?_
        refine r_goto (pc := 132) X dX6_looping_132 (tgt := 97) (by decide) ?_
        exact ih (l_or x4 (l_shl 1 q122_24)) (x10 + 1)
set_option maxRecDepth 100000 in
set_option maxHeartbeats 4000000 in
theorem t_X6_looping_L49 (N : Nat) (lt b c ms rd m : Bd) (P : PL) (m1 : Bd) (x1 x2 x3 x6 : Int) (K : KT) (X : Kok K cX6_looping yX6_looping.cls lw_g ({ frames := 3, cells := 0, slots := 0, locals := 63 } : Room) (some .int) 11) (k : Int → Option (Int × Bd)) (hk : ∀ (x4 : Int), Rn K (Q_X6_looping K lt b c ms rd m P) 0 0 (k x4) 141 [(0, .ref (kB K + 35)), (1, vI x1), (2, vI x2), (3, vI x3), (4, vL x4), (6, vI x6)] [] (Zw (kE K) lt b c ms rd m1 P)) : ∀ (n : Nat) (x4 : Int) (x7 : Int), Rn K (Q_X6_looping K lt b c ms rd m P) 0 0 (f_X6_looping_L49 N m1 x1 x2 x3 x6 k n x4 x7) 49 [(0, .ref (kB K + 35)), (1, vI x1), (2, vI x2), (3, vI x3), (4, vL x4), (6, vI x6), (7, vI x7)] [] (Zw (kE K) lt b c ms rd m1 P) := by
  intro n
  induction n with
  | zero =>
    intro x4 x7
    rw [f_X6_looping_L49]
    exact r_none
  | succ n ih =>
    intro x4 x7
    rw [f_X6_looping_L49]
    refine r_iload (pc := 49) X 6 dX6_looping_49 rfl ?_
    refine r_aload_n (pc := 51) X 0 dX6_looping_51 rfl rfl ?_
    refine r_get (pc := 52) (v := .ref (kB K + 36)) X 35 0 inX6 rfl rfl (by decide) tf_X6_7 rfl dX6_looping_52 ?_
    refine r_iload_n (pc := 55) X 1 dX6_looping_55 rfl rfl ?_
    refine r_ckA (fun h12 => ?_)
    refine r_iald (pc := 56) (f := m1 0) X 36 h12 zl_8 rfl dX6_looping_56 ?_
    refine r_ck1 (fun h13 => ?_)
    refine r_ck1 (fun h14 => ?_)
    refine r_icmp_ge (pc := 57) X h13 h14 dX6_looping_57 (tgt := 141) (by decide) (fun h15 => ?_) (fun h15 => ?_)
    · refine r_sub [0, 1, 2, 3, 4, 5] rfl ?_
      exact hk x4
    · refine r_aload_n (pc := 60) X 0 dX6_looping_60 rfl rfl ?_
      refine r_iload_n (pc := 61) X 1 dX6_looping_61 rfl rfl ?_
      refine r_iload (pc := 62) X 6 dX6_looping_62 rfl ?_
      refine r_callV (pc := 64) (q0 := 35) (ci := 6) (As := [vI x1, vI x7]) (rest := []) (W' := fun q64_16 => (Zw (kE K) lt b c ms rd m1 P)) (rv := fun q64_16 => some (vI q64_16)) X dX6_looping_64 rfl (fun a ha => c_X6_nodeAt N lt b c ms rd m1 P x1 x7 K.1.2.1 K.2.2.1.1 (kE K) a ha) (fun a => Zw_d _ _ _ _ _ _ _ _) gd_X6_216 rfl (n := 2) (by decide) rfl (by decide) rfl rfl rfl (Nat.zero_le _) (fun q64_16 eq64_16 => ?_)
      show Rn K _ 0 0 _ 67 [(0, .ref (kB K + 35)), (1, vI x1), (2, vI x2), (3, vI x3), (4, vL x4), (6, vI x6), (7, vI x7)] [vI q64_16] (Zw (kE K) lt b c ms rd m1 P)
      refine r_istore (pc := 67) (lv' := [(0, .ref (kB K + 35)), (1, vI x1), (2, vI x2), (3, vI x3), (4, vL x4), (6, vI x6), (7, vI x7), (8, vI q64_16)]) X [1, 2, 3, 4, 5, 6, 7, 0] dX6_looping_67 (by decide) rfl ?_
      refine r_iload (pc := 69) X 6 dX6_looping_69 rfl ?_
      refine r_iload_n (pc := 71) X 3 dX6_looping_71 rfl rfl ?_
      refine r_jn (J := fun j92 => ∀ (s0_92 : Int), Rn K (Q_X6_looping K lt b c ms rd m P) 0 0 (j92 s0_92) 92 [(0, .ref (kB K + 35)), (1, vI x1), (2, vI x2), (3, vI x3), (4, vL x4), (6, vI x6), (7, vI x7), (8, vI q64_16)] [vI s0_92] (Zw (kE K) lt b c ms rd m1 P)) ?_ (fun j92 hj92 => ?_)
      · intro s0_92
        refine r_istore (pc := 92) (lv' := [(0, .ref (kB K + 35)), (1, vI x1), (2, vI x2), (3, vI x3), (4, vL x4), (6, vI x6), (7, vI x7), (8, vI q64_16), (9, vI s0_92)]) X [1, 2, 3, 4, 5, 6, 7, 8, 0] dX6_looping_92 (by decide) rfl ?_
        refine r_iconst (pc := 94) X 0 dX6_looping_94 (by decide) ?_
        refine r_istore (pc := 95) (lv' := [(0, .ref (kB K + 35)), (1, vI x1), (2, vI x2), (3, vI x3), (4, vL x4), (6, vI x6), (7, vI x7), (8, vI q64_16), (9, vI s0_92), (10, vI 0)]) X [1, 2, 3, 4, 5, 6, 7, 8, 9, 0] dX6_looping_95 (by decide) rfl ?_
        refine t_X6_looping_L97 N lt b c ms rd m P m1 x1 x2 x3 x6 x7 q64_16 s0_92 K X _ ?_ N x4 0
        intro x4_97
        refine r_iinc (pc := 135) (lv' := [(0, .ref (kB K + 35)), (1, vI x1), (2, vI x2), (3, vI x3), (4, vL x4_97), (6, vI x6), (7, vI (x7 + 1))]) X 6 [1, 2, 3, 4, 5, 6, 0] dX6_looping_135 rfl (by decide) rfl ?_
        refine r_goto (pc := 138) X dX6_looping_138 (tgt := 49) (by decide) ?_
        exact ih x4_97 (x7 + 1)
      refine r_jn (J := fun j87 => Rn K (Q_X6_looping K lt b c ms rd m P) 0 0 j87 87 [(0, .ref (kB K + 35)), (1, vI x1), (2, vI x2), (3, vI x3), (4, vL x4), (6, vI x6), (7, vI x7), (8, vI q64_16)] [] (Zw (kE K) lt b c ms rd m1 P)) ?_ (fun j87 hj87 => ?_)
      · skip
        refine r_iconst (pc := 87) X 1 dX6_looping_87 (by decide) ?_
        refine r_goto (pc := 88) X dX6_looping_88 (tgt := 92) (by decide) ?_
        exact hj92 1
      refine r_ck1 (fun h25 => ?_)
      refine r_icmp_eq (pc := 72) X h13 h25 dX6_looping_72 (tgt := 87) (by decide) (fun h26 => ?_) (fun h26 => ?_)
      · exact hj87
      · refine r_lload (pc := 75) X 4 dX6_looping_75 rfl ?_
        refine r_iload (pc := 77) X 6 dX6_looping_77 rfl ?_
        refine r_lshr (pc := 79) X dX6_looping_79 ?_
        refine r_lconst (pc := 80) X 1 dX6_looping_80 (by decide) ?_
        refine r_land (pc := 81) X dX6_looping_81 ?_
        refine r_lconst (pc := 82) X 1 dX6_looping_82 (by decide) ?_
        refine r_ckL (fun h27 => ?_)
        refine r_lcmp (pc := 83) X h27 (by decide) dX6_looping_83 ?_
        refine r_ck1 (fun h28 => ?_)
        refine r_ifne (pc := 84) X h28 dX6_looping_84 (tgt := 91) (by decide) (fun h29 => ?_) (fun h29 => ?_)
        · refine r_iconst (pc := 91) X 0 dX6_looping_91 (by decide) ?_
          exact hj92 0
        · exact hj87
set_option maxRecDepth 100000 in
set_option maxHeartbeats 4000000 in
theorem t_X6_looping_L35 (N : Nat) (lt b c ms rd m : Bd) (P : PL) (m1 : Bd) (x1 x2 x3 : Int) (K : KT) (X : Kok K cX6_looping yX6_looping.cls lw_g ({ frames := 3, cells := 0, slots := 0, locals := 63 } : Room) (some .int) 11) (k : Int → Option (Int × Bd)) (hk : ∀ (x4 : Int), Rn K (Q_X6_looping K lt b c ms rd m P) 0 0 (k x4) 147 [(0, .ref (kB K + 35)), (1, vI x1), (2, vI x2), (3, vI x3), (4, vL x4)] [] (Zw (kE K) lt b c ms rd m1 P)) : ∀ (n : Nat) (x4 : Int) (x6 : Int), Rn K (Q_X6_looping K lt b c ms rd m P) 0 0 (f_X6_looping_L35 N m1 x1 x2 x3 k n x4 x6) 35 [(0, .ref (kB K + 35)), (1, vI x1), (2, vI x2), (3, vI x3), (4, vL x4), (6, vI x6)] [] (Zw (kE K) lt b c ms rd m1 P) := by
  intro n
  induction n with
  | zero =>
    intro x4 x6
    rw [f_X6_looping_L35]
    exact r_none
  | succ n ih =>
    intro x4 x6
    rw [f_X6_looping_L35]
    refine r_iload (pc := 35) X 5 dX6_looping_35 rfl ?_
    refine r_aload_n (pc := 37) X 0 dX6_looping_37 rfl rfl ?_
    refine r_get (pc := 38) (v := .ref (kB K + 36)) X 35 0 inX6 rfl rfl (by decide) tf_X6_7 rfl dX6_looping_38 ?_
    refine r_iload_n (pc := 41) X 1 dX6_looping_41 rfl rfl ?_
    refine r_ckA (fun h8 => ?_)
    refine r_iald (pc := 42) (f := m1 0) X 36 h8 zl_8 rfl dX6_looping_42 ?_
    refine r_ck1 (fun h9 => ?_)
    refine r_ck1 (fun h10 => ?_)
    refine r_icmp_gt (pc := 43) X h9 h10 dX6_looping_43 (tgt := 147) (by decide) (fun h11 => ?_) (fun h11 => ?_)
    · refine r_sub [0, 1, 2, 3, 4] rfl ?_
      exact hk x4
    · refine r_iconst (pc := 46) X 0 dX6_looping_46 (by decide) ?_
      refine r_istore (pc := 47) (lv' := [(0, .ref (kB K + 35)), (1, vI x1), (2, vI x2), (3, vI x3), (4, vL x4), (6, vI x6), (7, vI 0)]) X [1, 2, 3, 4, 5, 6, 0] dX6_looping_47 (by decide) rfl ?_
      refine t_X6_looping_L49 N lt b c ms rd m P m1 x1 x2 x3 x6 K X _ ?_ N x4 0
      intro x4_49
      refine r_iinc (pc := 141) (lv' := [(0, .ref (kB K + 35)), (1, vI x1), (2, vI x2), (3, vI x3), (4, vL x4_49), (6, vI (x6 + 1))]) X 5 [1, 2, 3, 4, 5, 0] dX6_looping_141 rfl (by decide) rfl ?_
      refine r_goto (pc := 144) X dX6_looping_144 (tgt := 35) (by decide) ?_
      exact ih x4_49 (x6 + 1)
set_option maxRecDepth 100000 in
set_option maxHeartbeats 4000000 in
theorem t_X6_looping_L19 (N : Nat) (lt b c ms rd m : Bd) (P : PL) (m1 : Bd) (x1 : Int) (K : KT) (X : Kok K cX6_looping yX6_looping.cls lw_g ({ frames := 3, cells := 0, slots := 0, locals := 63 } : Room) (some .int) 11) (k : Int → Option (Int × Bd)) (hk : ∀ (x2 : Int), Rn K (Q_X6_looping K lt b c ms rd m P) 0 0 (k x2) 172 [(2, vI x2)] [] (Zw (kE K) lt b c ms rd m1 P)) : ∀ (n : Nat) (x2 : Int) (x3 : Int), Rn K (Q_X6_looping K lt b c ms rd m P) 0 0 (f_X6_looping_L19 N m1 x1 k n x2 x3) 19 [(0, .ref (kB K + 35)), (1, vI x1), (2, vI x2), (3, vI x3)] [] (Zw (kE K) lt b c ms rd m1 P) := by
  intro n
  induction n with
  | zero =>
    intro x2 x3
    rw [f_X6_looping_L19]
    exact r_none
  | succ n ih =>
    intro x2 x3
    rw [f_X6_looping_L19]
    refine r_iload_n (pc := 19) X 3 dX6_looping_19 rfl rfl ?_
    refine r_aload_n (pc := 20) X 0 dX6_looping_20 rfl rfl ?_
    refine r_get (pc := 21) (v := .ref (kB K + 36)) X 35 0 inX6 rfl rfl (by decide) tf_X6_7 rfl dX6_looping_21 ?_
    refine r_iload_n (pc := 24) X 1 dX6_looping_24 rfl rfl ?_
    refine r_ckA (fun h4 => ?_)
    refine r_iald (pc := 25) (f := m1 0) X 36 h4 zl_8 rfl dX6_looping_25 ?_
    refine r_ck1 (fun h5 => ?_)
    refine r_ck1 (fun h6 => ?_)
    refine r_icmp_ge (pc := 26) X h5 h6 dX6_looping_26 (tgt := 172) (by decide) (fun h7 => ?_) (fun h7 => ?_)
    · refine r_sub [2] rfl ?_
      exact hk x2
    · refine r_lconst (pc := 29) X 0 dX6_looping_29 (by decide) ?_
      refine r_lstore (pc := 30) (lv' := [(0, .ref (kB K + 35)), (1, vI x1), (2, vI x2), (3, vI x3), (4, vL 0)]) X [1, 2, 3, 4, 0] dX6_looping_30 (by decide) rfl ?_
      refine r_iconst (pc := 32) X 0 dX6_looping_32 (by decide) ?_
      refine r_istore (pc := 33) (lv' := [(0, .ref (kB K + 35)), (1, vI x1), (2, vI x2), (3, vI x3), (4, vL 0), (6, vI 0)]) X [1, 2, 3, 4, 5, 0] dX6_looping_33 (by decide) rfl ?_
      refine t_X6_looping_L35 N lt b c ms rd m P m1 x1 x2 x3 K X _ ?_ N 0 0
      intro x4_35
      refine r_iload_n (pc := 147) X 2 dX6_looping_147 rfl rfl ?_
      refine r_lload (pc := 148) X 4 dX6_looping_148 rfl ?_
      refine r_iload_n (pc := 150) X 3 dX6_looping_150 rfl rfl ?_
      refine r_lshr (pc := 151) X dX6_looping_151 ?_
      refine r_lconst (pc := 152) X 1 dX6_looping_152 (by decide) ?_
      refine r_land (pc := 153) X dX6_looping_153 ?_
      refine r_lconst (pc := 154) X 1 dX6_looping_154 (by decide) ?_
      refine r_ckL (fun h30 => ?_)
      refine r_lcmp (pc := 155) X h30 (by decide) dX6_looping_155 ?_
      refine r_ck1 (fun h31 => ?_)
      refine r_jn (J := fun j164 => ∀ (s_164 : Int), Rn K (Q_X6_looping K lt b c ms rd m P) 0 0 (j164 s_164) 164 [(0, .ref (kB K + 35)), (1, vI x1), (2, vI x2), (3, vI x3), (4, vL x4_35)] [vI s_164, vI x2] (Zw (kE K) lt b c ms rd m1 P)) ?_ (fun j164 hj164 => ?_)
      · intro s_164
        refine r_iadd (pc := 164) X dX6_looping_164 ?_
        refine r_istore_n (pc := 165) (lv' := [(0, .ref (kB K + 35)), (1, vI x1), (2, vI (x2 + s_164)), (3, vI x3), (4, vL x4_35)]) X [1, 2, 0, 3, 4] dX6_looping_165 rfl (by decide) rfl ?_
        refine r_iinc (pc := 166) (lv' := [(0, .ref (kB K + 35)), (1, vI x1), (2, vI (x2 + s_164)), (3, vI (x3 + 1)), (4, vL x4_35)]) X 3 [1, 2, 3, 0, 4] dX6_looping_166 rfl (by decide) rfl ?_
        refine r_goto (pc := 169) X dX6_looping_169 (tgt := 19) (by decide) ?_
        refine r_sub [0, 1, 2, 3] rfl ?_
        exact ih (x2 + s_164) (x3 + 1)
      refine r_eq (z_ite j164) ?_
      refine r_ifne (pc := 156) X h31 dX6_looping_156 (tgt := 163) (by decide) (fun h32 => ?_) (fun h32 => ?_)
      · refine r_iconst (pc := 163) X 0 dX6_looping_163 (by decide) ?_
        exact hj164 0
      · refine r_iconst (pc := 159) X 1 dX6_looping_159 (by decide) ?_
        refine r_goto (pc := 160) X dX6_looping_160 (tgt := 164) (by decide) ?_
        exact hj164 1
set_option maxRecDepth 100000 in
set_option maxHeartbeats 4000000 in
theorem t_X6_looping (N : Nat) (lt b c ms rd m : Bd) (P : PL) (x1 : Int) (K : KT) (X : Kok K cX6_looping yX6_looping.cls lw_g ({ frames := 3, cells := 0, slots := 0, locals := 63 } : Room) (some .int) 11) : Rn K (Q_X6_looping K lt b c ms rd m P) 0 0 (f_X6_looping N m x1) 0 [(0, .ref (kB K + 35)), (1, vI x1)] [] (Zw (kE K) lt b c ms rd m P) := by
  unfold f_X6_looping
  refine r_aload_n (pc := 0) X 0 dX6_looping_0 rfl rfl ?_
  refine r_iload_n (pc := 1) X 1 dX6_looping_1 rfl rfl ?_
  refine r_callV (pc := 2) (q0 := 35) (ci := 6) (As := [vI x1]) (rest := []) (W' := fun q2_1 => (Zw (kE K) lt b c ms rd m P)) (rv := fun q2_1 => some (vI q2_1)) X dX6_looping_2 rfl (fun a ha => c_X6_has N lt b c ms rd m P x1 K.1.2.1 K.2.2.1.1 (kE K) a ha) (fun a => Zw_d _ _ _ _ _ _ _ _) gd_X6_204 rfl (n := 1) (by decide) rfl (by decide) rfl rfl rfl (Nat.zero_le _) (fun q2_1 eq2_1 => ?_)
  show Rn K _ 0 0 _ 5 [(0, .ref (kB K + 35)), (1, vI x1)] [vI q2_1] (Zw (kE K) lt b c ms rd m P)
  refine r_ck1 (fun h2 => ?_)
  refine r_ifne (pc := 5) X h2 dX6_looping_5 (tgt := 15) (by decide) (fun h3 => ?_) (fun h3 => ?_)
  · refine r_iconst (pc := 15) X 0 dX6_looping_15 (by decide) ?_
    refine r_istore_n (pc := 16) (lv' := [(0, .ref (kB K + 35)), (1, vI x1), (2, vI 0)]) X [1, 2, 0] dX6_looping_16 rfl (by decide) rfl ?_
    refine r_iconst (pc := 17) X 0 dX6_looping_17 (by decide) ?_
    refine r_istore_n (pc := 18) (lv' := [(0, .ref (kB K + 35)), (1, vI x1), (2, vI 0), (3, vI 0)]) X [1, 2, 3, 0] dX6_looping_18 rfl (by decide) rfl ?_
    refine t_X6_looping_L19 N lt b c ms rd m P m x1 K X _ ?_ N 0 0
    intro x2_19
    refine r_iload_n (pc := 172) X 0 dX6_looping_172 rfl rfl ?_
    exact r_iret (pc := 173) X rfl rfl (by decide) dX6_looping_173
  · refine r_aload_n (pc := 8) X 0 dX6_looping_8 rfl rfl ?_
    refine r_bipush (pc := 9) X (-2) dX6_looping_9 (by decide) ?_
    refine r_callV (pc := 11) (q0 := 35) (ci := 6) (As := [vI (-2)]) (rest := []) (W' := fun q11_33 => (Zw (kE K) lt b c ms rd q11_33.2 P)) (rv := fun q11_33 => some (vI q11_33.1)) X dX6_looping_11 rfl (fun a ha => c_X6_refuses N lt b c ms rd m P (-2) K.1.2.1 K.2.2.1.1 (kE K) a ha) (fun a => Zw_d _ _ _ _ _ _ _ _) gd_X6_138 rfl (n := 1) (by decide) rfl (by decide) rfl rfl rfl (Nat.zero_le _) (fun q11_33 eq11_33 => ?_)
    show Rn K _ 0 0 _ 14 [(0, .ref (kB K + 35)), (1, vI x1)] [vI q11_33.1] (Zw (kE K) lt b c ms rd q11_33.2 P)
    exact r_iret (pc := 14) X rfl rfl (by decide) dX6_looping_14
theorem c_X6_looping (N : Nat) (lt b c ms rd m : Bd) (P : PL) (x1 : Int) (l : Launch) (D : va_G) (E : ET) (a : Int × Bd) (ha : f_X6_looping N m x1 = some a) : Ct l yX6_looping (Cond.code yX6_looping cX6_looping 11 (some .int) :: lw_g) ({ frames := 3, cells := 0, slots := 0, locals := 63 } : Room) D E [.ref (E.2.2.2 + 35), vI x1] (Zw E lt b c ms rd m P) (Zw E lt b c ms rd a.2 P) (some (vI a.1)) :=
  ct_of (av := fun E => [.ref (E.2.2.2 + 35), vI x1]) (W0 := fun E => Zw E lt b c ms rd m P) (W1 := fun E (a : Int × Bd) => Zw E lt b c ms rd a.2 P) (rw := fun E a => some (vI a.1)) (by decide) rfl (fun E => Zw_d E lt b c ms rd m P) (fun E => by simp [lg_sl, z_cat, z_catR, z_catI, z_catL]) (fun K X => r_lv (by simp [lv_args, z_cat, z_catR, z_catI, z_catL]) (t_X6_looping N lt b c ms rd m P x1 K X)) l D E a ha
abbrev Q_X6_leastOf (K : KT) (lt b c ms rd m : Bd) (P : PL) : (Int × Bd) → State → Prop := Qm K ({ frames := 1, cells := 0, slots := 0, locals := 22 } : Room) (fun a : Int × Bd => Zw (kE K) lt b c ms rd a.2 P) (fun a => some (vI a.1))
set_option maxRecDepth 100000 in
set_option maxHeartbeats 4000000 in
theorem t_X6_leastOf_L2 (N : Nat) (lt b c ms rd m : Bd) (P : PL) (x1 : Int) (K : KT) (X : Kok K cX6_leastOf yX6_leastOf.cls lw_g ({ frames := 1, cells := 0, slots := 0, locals := 22 } : Room) (some .int) 12) (k : Bd → Option (Int × Bd)) (hk : ∀ (m1 : Bd), Rn K (Q_X6_leastOf K lt b c ms rd m P) 0 0 (k m1) 27 [(0, .ref (kB K + 35)), (1, vI x1)] [] (Zw (kE K) lt b c ms rd m1 P)) : ∀ (n : Nat) (x2 : Int) (m1 : Bd), Rn K (Q_X6_leastOf K lt b c ms rd m P) 0 0 (f_X6_leastOf_L2 x1 k n x2 m1) 2 [(0, .ref (kB K + 35)), (1, vI x1), (2, vI x2)] [] (Zw (kE K) lt b c ms rd m1 P) := by
  intro n
  induction n with
  | zero =>
    intro x2 m1
    rw [f_X6_leastOf_L2]
    exact r_none
  | succ n ih =>
    intro x2 m1
    rw [f_X6_leastOf_L2]
    refine r_iload_n (pc := 2) X 2 dX6_leastOf_2 rfl rfl ?_
    refine r_aload_n (pc := 3) X 0 dX6_leastOf_3 rfl rfl ?_
    refine r_get (pc := 4) (v := .ref (kB K + 36)) X 35 0 inX6 rfl rfl (by decide) tf_X6_7 rfl dX6_leastOf_4 ?_
    refine r_iload_n (pc := 7) X 1 dX6_leastOf_7 rfl rfl ?_
    refine r_ckA (fun h1 => ?_)
    refine r_iald (pc := 8) (f := m1 0) X 36 h1 zl_8 rfl dX6_leastOf_8 ?_
    refine r_ck1 (fun h2 => ?_)
    refine r_ck1 (fun h3 => ?_)
    refine r_icmp_ge (pc := 9) X h2 h3 dX6_leastOf_9 (tgt := 27) (by decide) (fun h4 => ?_) (fun h4 => ?_)
    · refine r_sub [0, 1] rfl ?_
      exact hk m1
    · refine r_aload_n (pc := 12) X 0 dX6_leastOf_12 rfl rfl ?_
      refine r_get (pc := 13) (v := .ref (kB K + 60)) X 35 34 inX6 rfl rfl (by decide) tf_X6_82 rfl dX6_leastOf_13 ?_
      refine r_iload_n (pc := 16) X 2 dX6_leastOf_16 rfl rfl ?_
      refine r_ldc2 (pc := 17) X (-1) tk_X6_225 dX6_leastOf_17 ?_
      refine r_ckA (fun h5 => ?_)
      refine r_last (pc := 20) (f := m1 34) (ws' := (Zw (kE K) lt b c ms rd (bS m1 34 (aS (m1 34) x2 (-1))) P)) X 60 h5 zl_40 rfl rfl dX6_leastOf_20 ?_
      refine r_iinc (pc := 21) (lv' := [(0, .ref (kB K + 35)), (1, vI x1), (2, vI (x2 + 1))]) X 2 [1, 2, 0] dX6_leastOf_21 rfl (by decide) rfl ?_
      refine r_goto (pc := 24) X dX6_leastOf_24 (tgt := 2) (by decide) ?_
      exact ih (x2 + 1) (bS m1 34 (aS (m1 34) x2 (-1)))
set_option maxRecDepth 100000 in
set_option maxHeartbeats 4000000 in
theorem t_X6_leastOf_L41 (N : Nat) (lt b c ms rd m : Bd) (P : PL) (x1 x2 : Int) (K : KT) (X : Kok K cX6_leastOf yX6_leastOf.cls lw_g ({ frames := 1, cells := 0, slots := 0, locals := 22 } : Room) (some .int) 12) (k : Bd → Option (Int × Bd)) (hk : ∀ (m1 : Bd), Rn K (Q_X6_leastOf K lt b c ms rd m P) 0 0 (k m1) 171 [(0, .ref (kB K + 35)), (1, vI x1), (2, vI x2)] [] (Zw (kE K) lt b c ms rd m1 P)) : ∀ (n : Nat) (x3 : Int) (m1 : Bd), Rn K (Q_X6_leastOf K lt b c ms rd m P) 0 0 (f_X6_leastOf_L41 x1 x2 k n x3 m1) 41 [(0, .ref (kB K + 35)), (1, vI x1), (2, vI x2), (3, vI x3)] [] (Zw (kE K) lt b c ms rd m1 P) := by
  intro n
  induction n with
  | zero =>
    intro x3 m1
    rw [f_X6_leastOf_L41]
    exact r_none
  | succ n ih =>
    intro x3 m1
    rw [f_X6_leastOf_L41]
    refine r_iload_n (pc := 41) X 3 dX6_leastOf_41 rfl rfl ?_
    refine r_aload_n (pc := 42) X 0 dX6_leastOf_42 rfl rfl ?_
    refine r_get (pc := 43) (v := .ref (kB K + 36)) X 35 0 inX6 rfl rfl (by decide) tf_X6_7 rfl dX6_leastOf_43 ?_
    refine r_iload_n (pc := 46) X 1 dX6_leastOf_46 rfl rfl ?_
    refine r_ckA (fun h10 => ?_)
    refine r_iald (pc := 47) (f := m1 0) X 36 h10 zl_8 rfl dX6_leastOf_47 ?_
    refine r_ck1 (fun h11 => ?_)
    refine r_ck1 (fun h12 => ?_)
    refine r_icmp_ge (pc := 48) X h11 h12 dX6_leastOf_48 (tgt := 171) (by decide) (fun h13 => ?_) (fun h13 => ?_)
    · refine r_sub [0, 1, 2] rfl ?_
      exact hk m1
    · refine r_aload_n (pc := 51) X 0 dX6_leastOf_51 rfl rfl ?_
      refine r_iload_n (pc := 52) X 1 dX6_leastOf_52 rfl rfl ?_
      refine r_iload_n (pc := 53) X 3 dX6_leastOf_53 rfl rfl ?_
      refine r_callV (pc := 54) (q0 := 35) (ci := 6) (As := [vI x1, vI x3]) (rest := []) (W' := fun q54_14 => (Zw (kE K) lt b c ms rd m1 P)) (rv := fun q54_14 => some (vI q54_14)) X dX6_leastOf_54 rfl (fun a ha => c_X6_nodeAt N lt b c ms rd m1 P x1 x3 K.1.2.1 K.2.2.1.1 (kE K) a ha) (fun a => Zw_d _ _ _ _ _ _ _ _) gd_X6_216 rfl (n := 2) (by decide) rfl (by decide) rfl rfl rfl (Nat.zero_le _) (fun q54_14 eq54_14 => ?_)
      show Rn K _ 0 0 _ 57 [(0, .ref (kB K + 35)), (1, vI x1), (2, vI x2), (3, vI x3)] [vI q54_14] (Zw (kE K) lt b c ms rd m1 P)
      refine r_istore (pc := 57) (lv' := [(0, .ref (kB K + 35)), (1, vI x1), (2, vI x2), (3, vI x3), (4, vI q54_14)]) X [1, 2, 3, 4, 0] dX6_leastOf_57 (by decide) rfl ?_
      refine r_iload (pc := 59) X 4 dX6_leastOf_59 rfl ?_
      refine r_callS (pc := 61) (As := [vI q54_14]) (rest := []) (W' := fun q61_15 => (Zw (kE K) lt b c ms rd m1 P)) (rv := fun q61_15 => some (vI q61_15)) X dX6_leastOf_61 rfl (fun a ha => c_X6_headOf N lt b c ms rd m1 P q54_14 K.1.2.1 K.2.2.1.1 (kE K) a ha) (fun a => Zw_d _ _ _ _ _ _ _ _) gd_X6_102 rfl (n := 1) (by decide) rfl (by decide) (Nat.zero_le _) (fun q61_15 eq61_15 => ?_)
      show Rn K _ 0 0 _ 64 [(0, .ref (kB K + 35)), (1, vI x1), (2, vI x2), (3, vI x3), (4, vI q54_14)] [vI q61_15] (Zw (kE K) lt b c ms rd m1 P)
      refine r_istore (pc := 64) (lv' := [(0, .ref (kB K + 35)), (1, vI x1), (2, vI x2), (3, vI x3), (4, vI q54_14), (5, vI q61_15)]) X [1, 2, 3, 4, 5, 0] dX6_leastOf_64 (by decide) rfl ?_
      refine r_aload_n (pc := 66) X 0 dX6_leastOf_66 rfl rfl ?_
      refine r_get (pc := 67) (v := .ref (kB K + 60)) X 35 34 inX6 rfl rfl (by decide) tf_X6_82 rfl dX6_leastOf_67 ?_
      refine r_iload (pc := 70) X 4 dX6_leastOf_70 rfl ?_
      refine r_iconst (pc := 72) X 0 dX6_leastOf_72 (by decide) ?_
      refine r_callS (pc := 73) (As := [vI q54_14, vI 0]) (rest := [.ref (kB K + 60)]) (W' := fun q73_16 => (Zw (kE K) lt b c ms rd m1 P)) (rv := fun q73_16 => some (vI q73_16)) X dX6_leastOf_73 rfl (fun a ha => c_X6_partOf N lt b c ms rd m1 P q54_14 0 K.1.2.1 K.2.2.1.1 (kE K) a ha) (fun a => Zw_d _ _ _ _ _ _ _ _) gd_X6_106 rfl (n := 2) (by decide) rfl (by decide) (by simp [z_cat, z_catR, z_catI, z_catL]) (fun q73_16 eq73_16 => ?_)
      show Rn K _ 0 0 _ 76 [(0, .ref (kB K + 35)), (1, vI x1), (2, vI x2), (3, vI x3), (4, vI q54_14), (5, vI q61_15)] [vI q73_16, .ref (kB K + 60)] (Zw (kE K) lt b c ms rd m1 P)
      refine r_ckA (fun h17 => ?_)
      refine r_lald (pc := 76) (f := m1 34) X 60 h17 zl_40 rfl dX6_leastOf_76 ?_
      refine r_lstore (pc := 77) (lv' := [(0, .ref (kB K + 35)), (1, vI x1), (2, vI x2), (3, vI x3), (4, vI q54_14), (5, vI q61_15), (6, vL (m1 34 q73_16))]) X [1, 2, 3, 4, 5, 6, 0] dX6_leastOf_77 (by decide) rfl ?_
      refine r_aload_n (pc := 79) X 0 dX6_leastOf_79 rfl rfl ?_
      refine r_get (pc := 80) (v := .ref (kB K + 60)) X 35 34 inX6 rfl rfl (by decide) tf_X6_82 rfl dX6_leastOf_80 ?_
      refine r_iload (pc := 83) X 4 dX6_leastOf_83 rfl ?_
      refine r_iconst (pc := 85) X 1 dX6_leastOf_85 (by decide) ?_
      refine r_callS (pc := 86) (As := [vI q54_14, vI 1]) (rest := [.ref (kB K + 60)]) (W' := fun q86_18 => (Zw (kE K) lt b c ms rd m1 P)) (rv := fun q86_18 => some (vI q86_18)) X dX6_leastOf_86 rfl (fun a ha => c_X6_partOf N lt b c ms rd m1 P q54_14 1 K.1.2.1 K.2.2.1.1 (kE K) a ha) (fun a => Zw_d _ _ _ _ _ _ _ _) gd_X6_106 rfl (n := 2) (by decide) rfl (by decide) (by simp [z_cat, z_catR, z_catI, z_catL]) (fun q86_18 eq86_18 => ?_)
      show Rn K _ 0 0 _ 89 [(0, .ref (kB K + 35)), (1, vI x1), (2, vI x2), (3, vI x3), (4, vI q54_14), (5, vI q61_15), (6, vL (m1 34 q73_16))] [vI q86_18, .ref (kB K + 60)] (Zw (kE K) lt b c ms rd m1 P)
      refine r_ckA (fun h19 => ?_)
      refine r_lald (pc := 89) (f := m1 34) X 60 h19 zl_40 rfl dX6_leastOf_89 ?_
      refine r_lstore (pc := 90) (lv' := [(0, .ref (kB K + 35)), (1, vI x1), (2, vI x2), (3, vI x3), (4, vI q54_14), (5, vI q61_15), (6, vL (m1 34 q73_16)), (8, vL (m1 34 q86_18))]) X [1, 2, 3, 4, 5, 6, 7, 0] dX6_leastOf_90 (by decide) rfl ?_
      refine r_iload (pc := 92) X 5 dX6_leastOf_92 rfl ?_
      refine r_jn (J := fun j140 => ∀ (s0_140 : Int), Rn K (Q_X6_leastOf K lt b c ms rd m P) 0 0 (j140 s0_140) 140 [(0, .ref (kB K + 35)), (1, vI x1), (2, vI x2), (3, vI x3)] [vL s0_140] (Zw (kE K) lt b c ms rd m1 P)) ?_ (fun j140 hj140 => ?_)
      · intro s0_140
        refine r_lstore (pc := 140) (lv' := [(0, .ref (kB K + 35)), (1, vI x1), (2, vI x2), (3, vI x3), (10, vL s0_140)]) X [1, 2, 3, 4, 0] dX6_leastOf_140 (by decide) rfl ?_
        refine r_aload_n (pc := 142) X 0 dX6_leastOf_142 rfl rfl ?_
        refine r_get (pc := 143) (v := .ref (kB K + 60)) X 35 34 inX6 rfl rfl (by decide) tf_X6_82 rfl dX6_leastOf_143 ?_
        refine r_iload_n (pc := 146) X 3 dX6_leastOf_146 rfl rfl ?_
        refine r_lload (pc := 147) X 4 dX6_leastOf_147 rfl ?_
        refine r_ldc2 (pc := 149) X 1000000 tk_X6_227 dX6_leastOf_149 ?_
        refine r_ckL (fun h20 => ?_)
        refine r_lcmp (pc := 152) X h20 (by decide) dX6_leastOf_152 ?_
        refine r_ck1 (fun h21 => ?_)
        refine r_ifle (pc := 153) X h21 dX6_leastOf_153 (tgt := 162) (by decide) (fun h22 => ?_) (fun h22 => ?_)
        · refine r_lload (pc := 162) X 4 dX6_leastOf_162 rfl ?_
          refine r_ckA (fun h23 => ?_)
          refine r_last (pc := 164) (f := m1 34) (ws' := (Zw (kE K) lt b c ms rd (bS m1 34 (aS (m1 34) x3 s0_140)) P)) X 60 h23 zl_40 rfl rfl dX6_leastOf_164 ?_
          refine r_iinc (pc := 165) (lv' := [(0, .ref (kB K + 35)), (1, vI x1), (2, vI x2), (3, vI (x3 + 1)), (10, vL s0_140)]) X 3 [1, 2, 3, 0, 4] dX6_leastOf_165 rfl (by decide) rfl ?_
          refine r_goto (pc := 168) X dX6_leastOf_168 (tgt := 41) (by decide) ?_
          refine r_sub [0, 1, 2, 3] rfl ?_
          exact ih (x3 + 1) (bS m1 34 (aS (m1 34) x3 s0_140))
        · refine r_ldc2 (pc := 156) X 1000000 tk_X6_227 dX6_leastOf_156 ?_
          refine r_goto (pc := 159) X dX6_leastOf_159 (tgt := 164) (by decide) ?_
          refine r_ckA (fun h24 => ?_)
          refine r_last (pc := 164) (f := m1 34) (ws' := (Zw (kE K) lt b c ms rd (bS m1 34 (aS (m1 34) x3 1000000)) P)) X 60 h24 zl_40 rfl rfl dX6_leastOf_164 ?_
          refine r_iinc (pc := 165) (lv' := [(0, .ref (kB K + 35)), (1, vI x1), (2, vI x2), (3, vI (x3 + 1)), (10, vL s0_140)]) X 3 [1, 2, 3, 0, 4] dX6_leastOf_165 rfl (by decide) rfl ?_
          refine r_goto (pc := 168) X dX6_leastOf_168 (tgt := 41) (by decide) ?_
          refine r_sub [0, 1, 2, 3] rfl ?_
          exact ih (x3 + 1) (bS m1 34 (aS (m1 34) x3 1000000))
      refine r_ck1 (fun h25 => ?_)
      refine r_ifne (pc := 94) X h25 dX6_leastOf_94 (tgt := 103) (by decide) (fun h26 => ?_) (fun h26 => ?_)
      · refine r_iload (pc := 103) X 5 dX6_leastOf_103 rfl ?_
        refine r_iconst (pc := 105) X 5 dX6_leastOf_105 (by decide) ?_
        refine r_icmp_eq (pc := 106) X h25 (by decide) dX6_leastOf_106 (tgt := 113) (by decide) (fun h27 => ?_) (fun h27 => ?_)
        · refine r_lload (pc := 113) X 6 dX6_leastOf_113 rfl ?_
          refine r_lconst (pc := 115) X 0 dX6_leastOf_115 (by decide) ?_
          refine r_ckL (fun h28 => ?_)
          refine r_lcmp (pc := 116) X h28 (by decide) dX6_leastOf_116 ?_
          refine r_ck1 (fun h29 => ?_)
          refine r_iflt (pc := 117) X h29 dX6_leastOf_117 (tgt := 127) (by decide) (fun h30 => ?_) (fun h30 => ?_)
          · refine r_ldc2 (pc := 127) X (-1) tk_X6_225 dX6_leastOf_127 ?_
            refine r_goto (pc := 130) X dX6_leastOf_130 (tgt := 140) (by decide) ?_
            refine r_sub [0, 1, 2, 3] rfl ?_
            exact hj140 (-1)
          · refine r_lload (pc := 120) X 7 dX6_leastOf_120 rfl ?_
            refine r_lconst (pc := 122) X 0 dX6_leastOf_122 (by decide) ?_
            refine r_ckL (fun h31 => ?_)
            refine r_lcmp (pc := 123) X h31 (by decide) dX6_leastOf_123 ?_
            refine r_ck1 (fun h32 => ?_)
            refine r_ifge (pc := 124) X h32 dX6_leastOf_124 (tgt := 133) (by decide) (fun h33 => ?_) (fun h33 => ?_)
            · refine r_lconst (pc := 133) X 1 dX6_leastOf_133 (by decide) ?_
              refine r_lload (pc := 134) X 6 dX6_leastOf_134 rfl ?_
              refine r_ladd (pc := 136) X dX6_leastOf_136 ?_
              refine r_lload (pc := 137) X 7 dX6_leastOf_137 rfl ?_
              refine r_ladd (pc := 139) X dX6_leastOf_139 ?_
              refine r_sub [0, 1, 2, 3] rfl ?_
              exact hj140 ((1 + (m1 34 q73_16)) + (m1 34 q86_18))
            · refine r_ldc2 (pc := 127) X (-1) tk_X6_225 dX6_leastOf_127 ?_
              refine r_goto (pc := 130) X dX6_leastOf_130 (tgt := 140) (by decide) ?_
              refine r_sub [0, 1, 2, 3] rfl ?_
              exact hj140 (-1)
        · refine r_lconst (pc := 109) X 1 dX6_leastOf_109 (by decide) ?_
          refine r_goto (pc := 110) X dX6_leastOf_110 (tgt := 140) (by decide) ?_
          refine r_sub [0, 1, 2, 3] rfl ?_
          exact hj140 1
      · refine r_ldc2 (pc := 97) X (-1) tk_X6_225 dX6_leastOf_97 ?_
        refine r_goto (pc := 100) X dX6_leastOf_100 (tgt := 140) (by decide) ?_
        refine r_sub [0, 1, 2, 3] rfl ?_
        exact hj140 (-1)
set_option maxRecDepth 100000 in
set_option maxHeartbeats 4000000 in
theorem t_X6_leastOf_L29 (N : Nat) (lt b c ms rd m : Bd) (P : PL) (x1 : Int) (K : KT) (X : Kok K cX6_leastOf yX6_leastOf.cls lw_g ({ frames := 1, cells := 0, slots := 0, locals := 22 } : Room) (some .int) 12) (k : Bd → Option (Int × Bd)) (hk : ∀ (m1 : Bd), Rn K (Q_X6_leastOf K lt b c ms rd m P) 0 0 (k m1) 177 [(0, .ref (kB K + 35))] [] (Zw (kE K) lt b c ms rd m1 P)) : ∀ (n : Nat) (x2 : Int) (m1 : Bd), Rn K (Q_X6_leastOf K lt b c ms rd m P) 0 0 (f_X6_leastOf_L29 N x1 k n x2 m1) 29 [(0, .ref (kB K + 35)), (1, vI x1), (2, vI x2)] [] (Zw (kE K) lt b c ms rd m1 P) := by
  intro n
  induction n with
  | zero =>
    intro x2 m1
    rw [f_X6_leastOf_L29]
    exact r_none
  | succ n ih =>
    intro x2 m1
    rw [f_X6_leastOf_L29]
    refine r_iload_n (pc := 29) X 2 dX6_leastOf_29 rfl rfl ?_
    refine r_aload_n (pc := 30) X 0 dX6_leastOf_30 rfl rfl ?_
    refine r_get (pc := 31) (v := .ref (kB K + 36)) X 35 0 inX6 rfl rfl (by decide) tf_X6_7 rfl dX6_leastOf_31 ?_
    refine r_iload_n (pc := 34) X 1 dX6_leastOf_34 rfl rfl ?_
    refine r_ckA (fun h6 => ?_)
    refine r_iald (pc := 35) (f := m1 0) X 36 h6 zl_8 rfl dX6_leastOf_35 ?_
    refine r_ck1 (fun h7 => ?_)
    refine r_ck1 (fun h8 => ?_)
    refine r_icmp_ge (pc := 36) X h7 h8 dX6_leastOf_36 (tgt := 177) (by decide) (fun h9 => ?_) (fun h9 => ?_)
    · refine r_sub [0] rfl ?_
      exact hk m1
    · refine r_iconst (pc := 39) X 0 dX6_leastOf_39 (by decide) ?_
      refine r_istore_n (pc := 40) (lv' := [(0, .ref (kB K + 35)), (1, vI x1), (2, vI x2), (3, vI 0)]) X [1, 2, 3, 0] dX6_leastOf_40 rfl (by decide) rfl ?_
      refine t_X6_leastOf_L41 N lt b c ms rd m P  x1 x2 K X _ ?_ N 0 m1
      intro m_41
      refine r_iinc (pc := 171) (lv' := [(0, .ref (kB K + 35)), (1, vI x1), (2, vI (x2 + 1))]) X 2 [1, 2, 0] dX6_leastOf_171 rfl (by decide) rfl ?_
      refine r_goto (pc := 174) X dX6_leastOf_174 (tgt := 29) (by decide) ?_
      exact ih (x2 + 1) m_41
set_option maxRecDepth 100000 in
set_option maxHeartbeats 4000000 in
theorem t_X6_leastOf (N : Nat) (lt b c ms rd m : Bd) (P : PL) (x1 : Int) (K : KT) (X : Kok K cX6_leastOf yX6_leastOf.cls lw_g ({ frames := 1, cells := 0, slots := 0, locals := 22 } : Room) (some .int) 12) : Rn K (Q_X6_leastOf K lt b c ms rd m P) 0 0 (f_X6_leastOf N m x1) 0 [(0, .ref (kB K + 35)), (1, vI x1)] [] (Zw (kE K) lt b c ms rd m P) := by
  unfold f_X6_leastOf
  refine r_iconst (pc := 0) X 0 dX6_leastOf_0 (by decide) ?_
  refine r_istore_n (pc := 1) (lv' := [(0, .ref (kB K + 35)), (1, vI x1), (2, vI 0)]) X [1, 2, 0] dX6_leastOf_1 rfl (by decide) rfl ?_
  refine t_X6_leastOf_L2 N lt b c ms rd m P  x1 K X _ ?_ N 0 m
  intro m_2
  refine r_iconst (pc := 27) X 0 dX6_leastOf_27 (by decide) ?_
  refine r_istore_n (pc := 28) (lv' := [(0, .ref (kB K + 35)), (1, vI x1), (2, vI 0)]) X [1, 2, 0] dX6_leastOf_28 rfl (by decide) rfl ?_
  refine t_X6_leastOf_L29 N lt b c ms rd m P  x1 K X _ ?_ N 0 m_2
  intro m_29
  refine r_aload_n (pc := 177) X 0 dX6_leastOf_177 rfl rfl ?_
  refine r_get (pc := 178) (v := .ref (kB K + 60)) X 35 34 inX6 rfl rfl (by decide) tf_X6_82 rfl dX6_leastOf_178 ?_
  refine r_iconst (pc := 181) X 0 dX6_leastOf_181 (by decide) ?_
  refine r_lald (pc := 182) (f := m_29 34) X 60 (by decide) zl_40 rfl dX6_leastOf_182 ?_
  refine r_l2i (pc := 183) X dX6_leastOf_183 ?_
  exact r_iret (pc := 184) X rfl rfl (by decide) dX6_leastOf_184
theorem c_X6_leastOf (N : Nat) (lt b c ms rd m : Bd) (P : PL) (x1 : Int) (l : Launch) (D : va_G) (E : ET) (a : Int × Bd) (ha : f_X6_leastOf N m x1 = some a) : Ct l yX6_leastOf (Cond.code yX6_leastOf cX6_leastOf 12 (some .int) :: lw_g) ({ frames := 1, cells := 0, slots := 0, locals := 22 } : Room) D E [.ref (E.2.2.2 + 35), vI x1] (Zw E lt b c ms rd m P) (Zw E lt b c ms rd a.2 P) (some (vI a.1)) :=
  ct_of (av := fun E => [.ref (E.2.2.2 + 35), vI x1]) (W0 := fun E => Zw E lt b c ms rd m P) (W1 := fun E (a : Int × Bd) => Zw E lt b c ms rd a.2 P) (rw := fun E a => some (vI a.1)) (by decide) rfl (fun E => Zw_d E lt b c ms rd m P) (fun E => by simp [lg_sl, z_cat, z_catR, z_catI, z_catL]) (fun K X => r_lv (by simp [lv_args, z_cat, z_catR, z_catI, z_catL]) (t_X6_leastOf N lt b c ms rd m P x1 K X)) l D E a ha
abbrev Q_X6_filled (K : KT) (lt b c ms rd m : Bd) (P : PL) : (Int × Bd) → State → Prop := Qm K ({ frames := 3, cells := 0, slots := 0, locals := 63 } : Room) (fun a : Int × Bd => Zw (kE K) lt b c ms rd a.2 P) (fun a => some (vI a.1))
set_option maxRecDepth 100000 in
set_option maxHeartbeats 4000000 in
theorem t_X6_filled (N : Nat) (lt b c ms rd m : Bd) (P : PL) (x1 : Int) (K : KT) (X : Kok K cX6_filled yX6_filled.cls lw_g ({ frames := 3, cells := 0, slots := 0, locals := 63 } : Room) (some .int) 2) : Rn K (Q_X6_filled K lt b c ms rd m P) 0 0 (f_X6_filled N m x1) 0 [(0, .ref (kB K + 35)), (1, vI x1)] [] (Zw (kE K) lt b c ms rd m P) := by
  unfold f_X6_filled
  refine r_aload_n (pc := 0) X 0 dX6_filled_0 rfl rfl ?_
  refine r_iload_n (pc := 1) X 1 dX6_filled_1 rfl rfl ?_
  refine r_callV (pc := 2) (q0 := 35) (ci := 6) (As := [vI x1]) (rest := []) (W' := fun q2_1 => (Zw (kE K) lt b c ms rd m P)) (rv := fun q2_1 => some (vI q2_1)) X dX6_filled_2 rfl (fun a ha => c_X6_has N lt b c ms rd m P x1 K.1.2.1 K.2.2.1.1 (kE K) a ha) (fun a => Zw_d _ _ _ _ _ _ _ _) gd_X6_204 rfl (n := 1) (by decide) rfl (by decide) rfl rfl rfl (Nat.zero_le _) (fun q2_1 eq2_1 => ?_)
  show Rn K _ 0 0 _ 5 [(0, .ref (kB K + 35)), (1, vI x1)] [vI q2_1] (Zw (kE K) lt b c ms rd m P)
  refine r_ck1 (fun h2 => ?_)
  refine r_ifne (pc := 5) X h2 dX6_filled_5 (tgt := 15) (by decide) (fun h3 => ?_) (fun h3 => ?_)
  · refine r_aload_n (pc := 15) X 0 dX6_filled_15 rfl rfl ?_
    refine r_iload_n (pc := 16) X 1 dX6_filled_16 rfl rfl ?_
    refine r_callV (pc := 17) (q0 := 35) (ci := 6) (As := [vI x1]) (rest := []) (W' := fun q17_4 => (Zw (kE K) lt b c ms rd q17_4.2 P)) (rv := fun q17_4 => some (vI q17_4.1)) X dX6_filled_17 rfl (fun a ha => c_X6_leastOf N lt b c ms rd m P x1 K.1.2.1 K.2.2.1.1 (kE K) a ha) (fun a => Zw_d _ _ _ _ _ _ _ _) gd_X6_233 rfl (n := 1) (by decide) rfl (by decide) rfl rfl rfl (Nat.zero_le _) (fun q17_4 eq17_4 => ?_)
    show Rn K _ 0 0 _ 20 [(0, .ref (kB K + 35)), (1, vI x1)] [vI q17_4.1] (Zw (kE K) lt b c ms rd q17_4.2 P)
    refine r_ck1 (fun h5 => ?_)
    refine r_jn (J := fun j28 => ∀ (s_28 : Int), Rn K (Q_X6_filled K lt b c ms rd m P) 0 0 (j28 s_28) 28 [(0, .ref (kB K + 35)), (1, vI x1)] [vI s_28] (Zw (kE K) lt b c ms rd q17_4.2 P)) ?_ (fun j28 hj28 => ?_)
    · intro s_28
      exact r_iret (pc := 28) X rfl rfl (by decide) dX6_filled_28
    refine r_eq (z_ite j28) ?_
    refine r_ifle (pc := 20) X h5 dX6_filled_20 (tgt := 27) (by decide) (fun h6 => ?_) (fun h6 => ?_)
    · refine r_iconst (pc := 27) X 0 dX6_filled_27 (by decide) ?_
      exact hj28 0
    · refine r_iconst (pc := 23) X 1 dX6_filled_23 (by decide) ?_
      refine r_goto (pc := 24) X dX6_filled_24 (tgt := 28) (by decide) ?_
      exact hj28 1
  · refine r_aload_n (pc := 8) X 0 dX6_filled_8 rfl rfl ?_
    refine r_bipush (pc := 9) X (-2) dX6_filled_9 (by decide) ?_
    refine r_callV (pc := 11) (q0 := 35) (ci := 6) (As := [vI (-2)]) (rest := []) (W' := fun q11_7 => (Zw (kE K) lt b c ms rd q11_7.2 P)) (rv := fun q11_7 => some (vI q11_7.1)) X dX6_filled_11 rfl (fun a ha => c_X6_refuses N lt b c ms rd m P (-2) K.1.2.1 K.2.2.1.1 (kE K) a ha) (fun a => Zw_d _ _ _ _ _ _ _ _) gd_X6_138 rfl (n := 1) (by decide) rfl (by decide) rfl rfl rfl (Nat.zero_le _) (fun q11_7 eq11_7 => ?_)
    show Rn K _ 0 0 _ 14 [(0, .ref (kB K + 35)), (1, vI x1)] [vI q11_7.1] (Zw (kE K) lt b c ms rd q11_7.2 P)
    exact r_iret (pc := 14) X rfl rfl (by decide) dX6_filled_14
theorem c_X6_filled (N : Nat) (lt b c ms rd m : Bd) (P : PL) (x1 : Int) (l : Launch) (D : va_G) (E : ET) (a : Int × Bd) (ha : f_X6_filled N m x1 = some a) : Ct l yX6_filled (Cond.code yX6_filled cX6_filled 2 (some .int) :: lw_g) ({ frames := 3, cells := 0, slots := 0, locals := 63 } : Room) D E [.ref (E.2.2.2 + 35), vI x1] (Zw E lt b c ms rd m P) (Zw E lt b c ms rd a.2 P) (some (vI a.1)) :=
  ct_of (av := fun E => [.ref (E.2.2.2 + 35), vI x1]) (W0 := fun E => Zw E lt b c ms rd m P) (W1 := fun E (a : Int × Bd) => Zw E lt b c ms rd a.2 P) (rw := fun E a => some (vI a.1)) (by decide) rfl (fun E => Zw_d E lt b c ms rd m P) (fun E => by simp [lg_sl, z_cat, z_catR, z_catI, z_catL]) (fun K X => r_lv (by simp [lv_args, z_cat, z_catR, z_catI, z_catL]) (t_X6_filled N lt b c ms rd m P x1 K X)) l D E a ha
abbrev Q_X6_least (K : KT) (lt b c ms rd m : Bd) (P : PL) : (Int × Bd) → State → Prop := Qm K ({ frames := 3, cells := 0, slots := 0, locals := 63 } : Room) (fun a : Int × Bd => Zw (kE K) lt b c ms rd a.2 P) (fun a => some (vI a.1))
set_option maxRecDepth 100000 in
set_option maxHeartbeats 4000000 in
theorem t_X6_least (N : Nat) (lt b c ms rd m : Bd) (P : PL) (x1 : Int) (K : KT) (X : Kok K cX6_least yX6_least.cls lw_g ({ frames := 3, cells := 0, slots := 0, locals := 63 } : Room) (some .int) 2) : Rn K (Q_X6_least K lt b c ms rd m P) 0 0 (f_X6_least N m x1) 0 [(0, .ref (kB K + 35)), (1, vI x1)] [] (Zw (kE K) lt b c ms rd m P) := by
  unfold f_X6_least
  refine r_aload_n (pc := 0) X 0 dX6_least_0 rfl rfl ?_
  refine r_iload_n (pc := 1) X 1 dX6_least_1 rfl rfl ?_
  refine r_callV (pc := 2) (q0 := 35) (ci := 6) (As := [vI x1]) (rest := []) (W' := fun q2_1 => (Zw (kE K) lt b c ms rd m P)) (rv := fun q2_1 => some (vI q2_1)) X dX6_least_2 rfl (fun a ha => c_X6_has N lt b c ms rd m P x1 K.1.2.1 K.2.2.1.1 (kE K) a ha) (fun a => Zw_d _ _ _ _ _ _ _ _) gd_X6_204 rfl (n := 1) (by decide) rfl (by decide) rfl rfl rfl (Nat.zero_le _) (fun q2_1 eq2_1 => ?_)
  show Rn K _ 0 0 _ 5 [(0, .ref (kB K + 35)), (1, vI x1)] [vI q2_1] (Zw (kE K) lt b c ms rd m P)
  refine r_ck1 (fun h2 => ?_)
  refine r_ifeq (pc := 5) X h2 dX6_least_5 (tgt := 16) (by decide) (fun h3 => ?_) (fun h3 => ?_)
  · refine r_aload_n (pc := 16) X 0 dX6_least_16 rfl rfl ?_
    refine r_bipush (pc := 17) X (-2) dX6_least_17 (by decide) ?_
    refine r_callV (pc := 19) (q0 := 35) (ci := 6) (As := [vI (-2)]) (rest := []) (W' := fun q19_4 => (Zw (kE K) lt b c ms rd q19_4.2 P)) (rv := fun q19_4 => some (vI q19_4.1)) X dX6_least_19 rfl (fun a ha => c_X6_refuses N lt b c ms rd m P (-2) K.1.2.1 K.2.2.1.1 (kE K) a ha) (fun a => Zw_d _ _ _ _ _ _ _ _) gd_X6_138 rfl (n := 1) (by decide) rfl (by decide) rfl rfl rfl (Nat.zero_le _) (fun q19_4 eq19_4 => ?_)
    show Rn K _ 0 0 _ 22 [(0, .ref (kB K + 35)), (1, vI x1)] [vI q19_4.1] (Zw (kE K) lt b c ms rd q19_4.2 P)
    exact r_iret (pc := 22) X rfl rfl (by decide) dX6_least_22
  · refine r_aload_n (pc := 8) X 0 dX6_least_8 rfl rfl ?_
    refine r_iload_n (pc := 9) X 1 dX6_least_9 rfl rfl ?_
    refine r_callV (pc := 10) (q0 := 35) (ci := 6) (As := [vI x1]) (rest := []) (W' := fun q10_5 => (Zw (kE K) lt b c ms rd q10_5.2 P)) (rv := fun q10_5 => some (vI q10_5.1)) X dX6_least_10 rfl (fun a ha => c_X6_leastOf N lt b c ms rd m P x1 K.1.2.1 K.2.2.1.1 (kE K) a ha) (fun a => Zw_d _ _ _ _ _ _ _ _) gd_X6_233 rfl (n := 1) (by decide) rfl (by decide) rfl rfl rfl (Nat.zero_le _) (fun q10_5 eq10_5 => ?_)
    show Rn K _ 0 0 _ 13 [(0, .ref (kB K + 35)), (1, vI x1)] [vI q10_5.1] (Zw (kE K) lt b c ms rd q10_5.2 P)
    refine r_goto (pc := 13) X dX6_least_13 (tgt := 22) (by decide) ?_
    exact r_iret (pc := 22) X rfl rfl (by decide) dX6_least_22
theorem c_X6_least (N : Nat) (lt b c ms rd m : Bd) (P : PL) (x1 : Int) (l : Launch) (D : va_G) (E : ET) (a : Int × Bd) (ha : f_X6_least N m x1 = some a) : Ct l yX6_least (Cond.code yX6_least cX6_least 2 (some .int) :: lw_g) ({ frames := 3, cells := 0, slots := 0, locals := 63 } : Room) D E [.ref (E.2.2.2 + 35), vI x1] (Zw E lt b c ms rd m P) (Zw E lt b c ms rd a.2 P) (some (vI a.1)) :=
  ct_of (av := fun E => [.ref (E.2.2.2 + 35), vI x1]) (W0 := fun E => Zw E lt b c ms rd m P) (W1 := fun E (a : Int × Bd) => Zw E lt b c ms rd a.2 P) (rw := fun E a => some (vI a.1)) (by decide) rfl (fun E => Zw_d E lt b c ms rd m P) (fun E => by simp [lg_sl, z_cat, z_catR, z_catI, z_catL]) (fun K X => r_lv (by simp [lv_args, z_cat, z_catR, z_catI, z_catL]) (t_X6_least N lt b c ms rd m P x1 K X)) l D E a ha
abbrev Q_X6_signs (K : KT) (lt b c ms rd m : Bd) (P : PL) : (Int × Bd) → State → Prop := Qm K ({ frames := 5, cells := 0, slots := 0, locals := 116 } : Room) (fun a : Int × Bd => Zw (kE K) lt b c ms rd a.2 P) (fun a => some (vI a.1))
set_option maxRecDepth 100000 in
set_option maxHeartbeats 4000000 in
theorem t_X6_signs_L33 (N : Nat) (lt b c ms rd m : Bd) (P : PL) (x3 : Int) (K : KT) (X : Kok K cX6_signs yX6_signs.cls lw_g ({ frames := 5, cells := 0, slots := 0, locals := 116 } : Room) (some .int) 10) (k : Bd → Option (Int × Bd)) (hk : ∀ (m1 : Bd), Rn K (Q_X6_signs K lt b c ms rd m P) 0 0 (k m1) 62 [(0, .ref (kB K + 35)), (3, vI x3)] [] (Zw (kE K) lt b c ms rd m1 P)) : ∀ (n : Nat) (x4 : Int) (m1 : Bd), Rn K (Q_X6_signs K lt b c ms rd m P) 0 0 (f_X6_signs_L33 x3 k n x4 m1) 33 [(0, .ref (kB K + 35)), (3, vI x3), (4, vI x4)] [] (Zw (kE K) lt b c ms rd m1 P) := by
  intro n
  induction n with
  | zero =>
    intro x4 m1
    rw [f_X6_signs_L33]
    exact r_none
  | succ n ih =>
    intro x4 m1
    rw [f_X6_signs_L33]
    refine r_iload (pc := 33) X 2 dX6_signs_33 rfl ?_
    refine r_iload_n (pc := 35) X 1 dX6_signs_35 rfl rfl ?_
    refine r_ck1 (fun h9 => ?_)
    refine r_ck1 (fun h10 => ?_)
    refine r_icmp_ge (pc := 36) X h9 h10 dX6_signs_36 (tgt := 62) (by decide) (fun h11 => ?_) (fun h11 => ?_)
    · refine r_sub [0, 1] rfl ?_
      exact hk m1
    · refine r_aload_n (pc := 39) X 0 dX6_signs_39 rfl rfl ?_
      refine r_get (pc := 40) (v := .ref (kB K + 52)) X 35 21 inX6 rfl rfl (by decide) tf_X6_58 rfl dX6_signs_40 ?_
      refine r_iload (pc := 43) X 2 dX6_signs_43 rfl ?_
      refine r_iload (pc := 45) X 2 dX6_signs_45 rfl ?_
      refine r_jn (J := fun j55 => ∀ (s_55 : Int), Rn K (Q_X6_signs K lt b c ms rd m P) 0 0 (j55 s_55) 55 [(0, .ref (kB K + 35)), (3, vI x3), (4, vI x4)] [vI s_55, vI x4, .ref (kB K + 52)] (Zw (kE K) lt b c ms rd m1 P)) ?_ (fun j55 hj55 => ?_)
      · intro s_55
        refine r_ckA (fun h13 => ?_)
        refine r_iast (pc := 55) (f := m1 21) (ws' := (Zw (kE K) lt b c ms rd (bS m1 21 (aS (m1 21) x4 s_55)) P)) X 52 h13 zl_6400 rfl rfl dX6_signs_55 ?_
        refine r_iinc (pc := 56) (lv' := [(0, .ref (kB K + 35)), (3, vI x3), (4, vI (x4 + 1))]) X 2 [1, 2, 0] dX6_signs_56 rfl (by decide) rfl ?_
        refine r_goto (pc := 59) X dX6_signs_59 (tgt := 33) (by decide) ?_
        exact ih (x4 + 1) (bS m1 21 (aS (m1 21) x4 s_55))
      refine r_eq (z_ite j55) ?_
      refine r_ifne (pc := 47) X h9 dX6_signs_47 (tgt := 54) (by decide) (fun h12 => ?_) (fun h12 => ?_)
      · refine r_iconst (pc := 54) X 0 dX6_signs_54 (by decide) ?_
        exact hj55 0
      · refine r_iconst (pc := 50) X 1 dX6_signs_50 (by decide) ?_
        refine r_goto (pc := 51) X dX6_signs_51 (tgt := 55) (by decide) ?_
        exact hj55 1
set_option maxRecDepth 100000 in
set_option maxHeartbeats 4000000 in
theorem t_X6_signs_L96 (N : Nat) (lt b c ms rd m : Bd) (P : PL) (x3 x4 x5 x6 : Int) (K : KT) (X : Kok K cX6_signs yX6_signs.cls lw_g ({ frames := 5, cells := 0, slots := 0, locals := 116 } : Room) (some .int) 10) (k : Bd → Option (Int × Bd)) (hk : ∀ (m1 : Bd), Rn K (Q_X6_signs K lt b c ms rd m P) 0 0 (k m1) 181 [(0, .ref (kB K + 35)), (3, vI x3), (4, vI x4), (5, vI x5)] [] (Zw (kE K) lt b c ms rd m1 P)) : ∀ (n : Nat) (x7 : Int) (m1 : Bd), Rn K (Q_X6_signs K lt b c ms rd m P) 0 0 (f_X6_signs_L96 x3 x4 x5 x6 k n x7 m1) 96 [(0, .ref (kB K + 35)), (3, vI x3), (4, vI x4), (5, vI x5), (6, vI x6), (7, vI x7)] [] (Zw (kE K) lt b c ms rd m1 P) := by
  intro n
  induction n with
  | zero =>
    intro x7 m1
    rw [f_X6_signs_L96]
    exact r_none
  | succ n ih =>
    intro x7 m1
    rw [f_X6_signs_L96]
    refine r_iload (pc := 96) X 5 dX6_signs_96 rfl ?_
    refine r_iload (pc := 98) X 4 dX6_signs_98 rfl ?_
    refine r_callS (pc := 100) (As := [vI x6]) (rest := [vI x7]) (W' := fun q100_21 => (Zw (kE K) lt b c ms rd m1 P)) (rv := fun q100_21 => some (vI q100_21)) X dX6_signs_100 rfl (fun a ha => c_X6_parts N lt b c ms rd m1 P x6 K.1.2.1 K.2.2.1.1 (kE K) a ha) (fun a => Zw_d _ _ _ _ _ _ _ _) gd_X6_113 rfl (n := 1) (by decide) rfl (by decide) (by simp [z_cat, z_catR, z_catI, z_catL]) (fun q100_21 eq100_21 => ?_)
    show Rn K _ 0 0 _ 103 [(0, .ref (kB K + 35)), (3, vI x3), (4, vI x4), (5, vI x5), (6, vI x6), (7, vI x7)] [vI q100_21, vI x7] (Zw (kE K) lt b c ms rd m1 P)
    refine r_ck1 (fun h22 => ?_)
    refine r_ck1 (fun h23 => ?_)
    refine r_icmp_ge (pc := 103) X h22 h23 dX6_signs_103 (tgt := 181) (by decide) (fun h24 => ?_) (fun h24 => ?_)
    · refine r_sub [0, 1, 2, 3] rfl ?_
      exact hk m1
    · refine r_aload_n (pc := 106) X 0 dX6_signs_106 rfl rfl ?_
      refine r_get (pc := 107) (v := .ref (kB K + 52)) X 35 21 inX6 rfl rfl (by decide) tf_X6_58 rfl dX6_signs_107 ?_
      refine r_iload (pc := 110) X 3 dX6_signs_110 rfl ?_
      refine r_ckA (fun h25 => ?_)
      refine r_iald (pc := 112) (f := m1 21) X 52 h25 zl_6400 rfl dX6_signs_112 ?_
      refine r_istore (pc := 113) (lv' := [(0, .ref (kB K + 35)), (3, vI x3), (4, vI x4), (5, vI x5), (6, vI x6), (7, vI x7), (8, vI (m1 21 x5))]) X [1, 2, 3, 4, 5, 6, 0] dX6_signs_113 (by decide) rfl ?_
      refine r_iload (pc := 115) X 4 dX6_signs_115 rfl ?_
      refine r_bipush (pc := 117) X 6 dX6_signs_117 (by decide) ?_
      refine r_jn (J := fun j132 => ∀ (s0_132 : Int), Rn K (Q_X6_signs K lt b c ms rd m P) 0 0 (j132 s0_132) 132 [(0, .ref (kB K + 35)), (3, vI x3), (4, vI x4), (5, vI x5), (6, vI x6), (7, vI x7), (8, vI (m1 21 x5))] [vI s0_132] (Zw (kE K) lt b c ms rd m1 P)) ?_ (fun j132 hj132 => ?_)
      · intro s0_132
        refine r_istore (pc := 132) (lv' := [(0, .ref (kB K + 35)), (3, vI x3), (4, vI x4), (5, vI x5), (6, vI x6), (7, vI x7), (8, vI (m1 21 x5)), (9, vI s0_132)]) X [1, 2, 3, 4, 5, 6, 7, 0] dX6_signs_132 (by decide) rfl ?_
        refine r_aload_n (pc := 134) X 0 dX6_signs_134 rfl rfl ?_
        refine r_get (pc := 135) (v := .ref (kB K + 52)) X 35 21 inX6 rfl rfl (by decide) tf_X6_58 rfl dX6_signs_135 ?_
        refine r_aload_n (pc := 138) X 0 dX6_signs_138 rfl rfl ?_
        refine r_get (pc := 139) (v := .ref (kB K + 42)) X 35 9 inX6 rfl rfl (by decide) tf_X6_28 rfl dX6_signs_139 ?_
        refine r_iload (pc := 142) X 3 dX6_signs_142 rfl ?_
        refine r_ckA (fun h26 => ?_)
        refine r_iald (pc := 144) (f := m1 9) X 42 h26 zl_3400 rfl dX6_signs_144 ?_
        refine r_iload (pc := 145) X 5 dX6_signs_145 rfl ?_
        refine r_callS (pc := 147) (As := [vI (m1 9 x5), vI x7]) (rest := [.ref (kB K + 52)]) (W' := fun q147_27 => (Zw (kE K) lt b c ms rd m1 P)) (rv := fun q147_27 => some (vI q147_27)) X dX6_signs_147 rfl (fun a ha => c_X6_partOf N lt b c ms rd m1 P (m1 9 x5) x7 K.1.2.1 K.2.2.1.1 (kE K) a ha) (fun a => Zw_d _ _ _ _ _ _ _ _) gd_X6_106 rfl (n := 2) (by decide) rfl (by decide) (by simp [z_cat, z_catR, z_catI, z_catL]) (fun q147_27 eq147_27 => ?_)
        show Rn K _ 0 0 _ 150 [(0, .ref (kB K + 35)), (3, vI x3), (4, vI x4), (5, vI x5), (6, vI x6), (7, vI x7), (8, vI (m1 21 x5)), (9, vI s0_132)] [vI q147_27, .ref (kB K + 52)] (Zw (kE K) lt b c ms rd m1 P)
        refine r_dup2 (pc := 150) X dX6_signs_150 rfl rfl ?_
        refine r_ckA (fun h28 => ?_)
        refine r_iald (pc := 151) (f := m1 21) X 52 h28 zl_6400 rfl dX6_signs_151 ?_
        refine r_iload (pc := 152) X 7 dX6_signs_152 rfl ?_
        refine r_ck1 (fun h29 => ?_)
        refine r_ifeq (pc := 154) X h29 dX6_signs_154 (tgt := 171) (by decide) (fun h30 => ?_) (fun h30 => ?_)
        · refine r_iload (pc := 171) X 6 dX6_signs_171 rfl ?_
          refine r_ior (pc := 173) X dX6_signs_173 ?_
          refine r_iast (pc := 174) (f := m1 21) (ws' := (Zw (kE K) lt b c ms rd (bS m1 21 (aS (m1 21) q147_27 (i_or (m1 21 q147_27) (m1 21 x5)))) P)) X 52 h28 zl_6400 rfl rfl dX6_signs_174 ?_
          refine r_iinc (pc := 175) (lv' := [(0, .ref (kB K + 35)), (3, vI x3), (4, vI x4), (5, vI x5), (6, vI x6), (7, vI (x7 + 1)), (8, vI (m1 21 x5)), (9, vI s0_132)]) X 5 [1, 2, 3, 4, 5, 0, 6, 7] dX6_signs_175 rfl (by decide) rfl ?_
          refine r_goto (pc := 178) X dX6_signs_178 (tgt := 96) (by decide) ?_
          refine r_sub [0, 1, 2, 3, 4, 5] rfl ?_
          exact ih (x7 + 1) (bS m1 21 (aS (m1 21) q147_27 (i_or (m1 21 q147_27) (m1 21 x5))))
        · refine r_iload (pc := 157) X 6 dX6_signs_157 rfl ?_
          refine r_iconst (pc := 159) X 1 dX6_signs_159 (by decide) ?_
          refine r_ishr (pc := 160) X dX6_signs_160 ?_
          refine r_iload (pc := 161) X 6 dX6_signs_161 rfl ?_
          refine r_iconst (pc := 163) X 1 dX6_signs_163 (by decide) ?_
          refine r_ishl (pc := 164) X dX6_signs_164 ?_
          refine r_iconst (pc := 165) X 2 dX6_signs_165 (by decide) ?_
          refine r_iand (pc := 166) X dX6_signs_166 ?_
          refine r_ior (pc := 167) X dX6_signs_167 ?_
          refine r_goto (pc := 168) X dX6_signs_168 (tgt := 173) (by decide) ?_
          refine r_ior (pc := 173) X dX6_signs_173 ?_
          refine r_iast (pc := 174) (f := m1 21) (ws' := (Zw (kE K) lt b c ms rd (bS m1 21 (aS (m1 21) q147_27 (i_or (m1 21 q147_27) (i_or (i_shr (m1 21 x5) 1) (i_and (i_shl (m1 21 x5) 1) 2))))) P)) X 52 h28 zl_6400 rfl rfl dX6_signs_174 ?_
          refine r_iinc (pc := 175) (lv' := [(0, .ref (kB K + 35)), (3, vI x3), (4, vI x4), (5, vI x5), (6, vI x6), (7, vI (x7 + 1)), (8, vI (m1 21 x5)), (9, vI s0_132)]) X 5 [1, 2, 3, 4, 5, 0, 6, 7] dX6_signs_175 rfl (by decide) rfl ?_
          refine r_goto (pc := 178) X dX6_signs_178 (tgt := 96) (by decide) ?_
          refine r_sub [0, 1, 2, 3, 4, 5] rfl ?_
          exact ih (x7 + 1) (bS m1 21 (aS (m1 21) q147_27 (i_or (m1 21 q147_27) (i_or (i_shr (m1 21 x5) 1) (i_and (i_shl (m1 21 x5) 1) 2)))))
      refine r_jn (J := fun j131 => Rn K (Q_X6_signs K lt b c ms rd m P) 0 0 j131 131 [(0, .ref (kB K + 35)), (3, vI x3), (4, vI x4), (5, vI x5), (6, vI x6), (7, vI x7), (8, vI (m1 21 x5))] [] (Zw (kE K) lt b c ms rd m1 P)) ?_ (fun j131 hj131 => ?_)
      · skip
        refine r_iconst (pc := 131) X 0 dX6_signs_131 (by decide) ?_
        exact hj132 0
      refine r_ck1 (fun h31 => ?_)
      refine r_icmp_ne (pc := 119) X h31 (by decide) dX6_signs_119 (tgt := 131) (by decide) (fun h32 => ?_) (fun h32 => ?_)
      · exact hj131
      · refine r_iload (pc := 122) X 5 dX6_signs_122 rfl ?_
        refine r_ifne (pc := 124) X h22 dX6_signs_124 (tgt := 131) (by decide) (fun h33 => ?_) (fun h33 => ?_)
        · exact hj131
        · refine r_iconst (pc := 127) X 1 dX6_signs_127 (by decide) ?_
          refine r_goto (pc := 128) X dX6_signs_128 (tgt := 132) (by decide) ?_
          exact hj132 1
set_option maxRecDepth 100000 in
set_option maxHeartbeats 4000000 in
theorem t_X6_signs_L75 (N : Nat) (lt b c ms rd m : Bd) (P : PL) (x3 x4 : Int) (K : KT) (X : Kok K cX6_signs yX6_signs.cls lw_g ({ frames := 5, cells := 0, slots := 0, locals := 116 } : Room) (some .int) 10) (k : Bd → Option (Int × Bd)) (hk : ∀ (m1 : Bd), Rn K (Q_X6_signs K lt b c ms rd m P) 0 0 (k m1) 187 [(0, .ref (kB K + 35)), (3, vI x3), (4, vI x4)] [] (Zw (kE K) lt b c ms rd m1 P)) : ∀ (n : Nat) (x5 : Int) (m1 : Bd), Rn K (Q_X6_signs K lt b c ms rd m P) 0 0 (f_X6_signs_L75 N x3 x4 k n x5 m1) 75 [(0, .ref (kB K + 35)), (3, vI x3), (4, vI x4), (5, vI x5)] [] (Zw (kE K) lt b c ms rd m1 P) := by
  intro n
  induction n with
  | zero =>
    intro x5 m1
    rw [f_X6_signs_L75]
    exact r_none
  | succ n ih =>
    intro x5 m1
    rw [f_X6_signs_L75]
    refine r_iload (pc := 75) X 3 dX6_signs_75 rfl ?_
    refine r_iload_n (pc := 77) X 1 dX6_signs_77 rfl rfl ?_
    refine r_ck1 (fun h16 => ?_)
    refine r_ck1 (fun h17 => ?_)
    refine r_icmp_ge (pc := 78) X h16 h17 dX6_signs_78 (tgt := 187) (by decide) (fun h18 => ?_) (fun h18 => ?_)
    · refine r_sub [0, 1, 2] rfl ?_
      exact hk m1
    · refine r_aload_n (pc := 81) X 0 dX6_signs_81 rfl rfl ?_
      refine r_get (pc := 82) (v := .ref (kB K + 42)) X 35 9 inX6 rfl rfl (by decide) tf_X6_28 rfl dX6_signs_82 ?_
      refine r_iload (pc := 85) X 3 dX6_signs_85 rfl ?_
      refine r_ckA (fun h19 => ?_)
      refine r_iald (pc := 87) (f := m1 9) X 42 h19 zl_3400 rfl dX6_signs_87 ?_
      refine r_callS (pc := 88) (As := [vI (m1 9 x5)]) (rest := []) (W' := fun q88_20 => (Zw (kE K) lt b c ms rd m1 P)) (rv := fun q88_20 => some (vI q88_20)) X dX6_signs_88 rfl (fun a ha => c_X6_headOf N lt b c ms rd m1 P (m1 9 x5) K.1.2.1 K.2.2.1.1 (kE K) a ha) (fun a => Zw_d _ _ _ _ _ _ _ _) gd_X6_102 rfl (n := 1) (by decide) rfl (by decide) (Nat.zero_le _) (fun q88_20 eq88_20 => ?_)
      show Rn K _ 0 0 _ 91 [(0, .ref (kB K + 35)), (3, vI x3), (4, vI x4), (5, vI x5)] [vI q88_20] (Zw (kE K) lt b c ms rd m1 P)
      refine r_istore (pc := 91) (lv' := [(0, .ref (kB K + 35)), (3, vI x3), (4, vI x4), (5, vI x5), (6, vI q88_20)]) X [1, 2, 3, 4, 0] dX6_signs_91 (by decide) rfl ?_
      refine r_iconst (pc := 93) X 0 dX6_signs_93 (by decide) ?_
      refine r_istore (pc := 94) (lv' := [(0, .ref (kB K + 35)), (3, vI x3), (4, vI x4), (5, vI x5), (6, vI q88_20), (7, vI 0)]) X [1, 2, 3, 4, 5, 0] dX6_signs_94 (by decide) rfl ?_
      refine t_X6_signs_L96 N lt b c ms rd m P  x3 x4 x5 q88_20 K X _ ?_ N 0 m1
      intro m_96
      refine r_iinc (pc := 181) (lv' := [(0, .ref (kB K + 35)), (3, vI x3), (4, vI x4), (5, vI (x5 + 1))]) X 3 [1, 2, 3, 0] dX6_signs_181 rfl (by decide) rfl ?_
      refine r_goto (pc := 184) X dX6_signs_184 (tgt := 75) (by decide) ?_
      exact ih (x5 + 1) m_96
set_option maxRecDepth 100000 in
set_option maxHeartbeats 4000000 in
theorem t_X6_signs_L65 (N : Nat) (lt b c ms rd m : Bd) (P : PL) (x3 : Int) (K : KT) (X : Kok K cX6_signs yX6_signs.cls lw_g ({ frames := 5, cells := 0, slots := 0, locals := 116 } : Room) (some .int) 10) (k : Bd → Option (Int × Bd)) (hk : ∀ (m1 : Bd), Rn K (Q_X6_signs K lt b c ms rd m P) 0 0 (k m1) 193 [(0, .ref (kB K + 35)), (3, vI x3)] [] (Zw (kE K) lt b c ms rd m1 P)) : ∀ (n : Nat) (x4 : Int) (m1 : Bd), Rn K (Q_X6_signs K lt b c ms rd m P) 0 0 (f_X6_signs_L65 N x3 k n x4 m1) 65 [(0, .ref (kB K + 35)), (3, vI x3), (4, vI x4)] [] (Zw (kE K) lt b c ms rd m1 P) := by
  intro n
  induction n with
  | zero =>
    intro x4 m1
    rw [f_X6_signs_L65]
    exact r_none
  | succ n ih =>
    intro x4 m1
    rw [f_X6_signs_L65]
    refine r_iload (pc := 65) X 2 dX6_signs_65 rfl ?_
    refine r_bipush (pc := 67) X 80 dX6_signs_67 (by decide) ?_
    refine r_ck1 (fun h14 => ?_)
    refine r_icmp_ge (pc := 69) X h14 (by decide) dX6_signs_69 (tgt := 193) (by decide) (fun h15 => ?_) (fun h15 => ?_)
    · refine r_sub [0, 1] rfl ?_
      exact hk m1
    · refine r_iconst (pc := 72) X 0 dX6_signs_72 (by decide) ?_
      refine r_istore (pc := 73) (lv' := [(0, .ref (kB K + 35)), (3, vI x3), (4, vI x4), (5, vI 0)]) X [1, 2, 3, 0] dX6_signs_73 (by decide) rfl ?_
      refine t_X6_signs_L75 N lt b c ms rd m P  x3 x4 K X _ ?_ N 0 m1
      intro m_75
      refine r_iinc (pc := 187) (lv' := [(0, .ref (kB K + 35)), (3, vI x3), (4, vI (x4 + 1))]) X 2 [1, 2, 0] dX6_signs_187 rfl (by decide) rfl ?_
      refine r_goto (pc := 190) X dX6_signs_190 (tgt := 65) (by decide) ?_
      exact ih (x4 + 1) m_75
set_option maxRecDepth 100000 in
set_option maxHeartbeats 4000000 in
theorem t_X6_signs_L199 (N : Nat) (lt b c ms rd m : Bd) (P : PL) (m1 : Bd) (x3 : Int) (K : KT) (X : Kok K cX6_signs yX6_signs.cls lw_g ({ frames := 5, cells := 0, slots := 0, locals := 116 } : Room) (some .int) 10) (k : Int → Option (Int × Bd)) (hk : ∀ (x4 : Int), Rn K (Q_X6_signs K lt b c ms rd m P) 0 0 (k x4) 243 [(4, vI x4)] [] (Zw (kE K) lt b c ms rd m1 P)) : ∀ (n : Nat) (x4 : Int) (x5 : Int), Rn K (Q_X6_signs K lt b c ms rd m P) 0 0 (f_X6_signs_L199 m1 x3 k n x4 x5) 199 [(0, .ref (kB K + 35)), (3, vI x3), (4, vI x4), (5, vI x5)] [] (Zw (kE K) lt b c ms rd m1 P) := by
  intro n
  induction n with
  | zero =>
    intro x4 x5
    rw [f_X6_signs_L199]
    exact r_none
  | succ n ih =>
    intro x4 x5
    rw [f_X6_signs_L199]
    refine r_iload (pc := 199) X 3 dX6_signs_199 rfl ?_
    refine r_iload_n (pc := 201) X 1 dX6_signs_201 rfl rfl ?_
    refine r_ck1 (fun h34 => ?_)
    refine r_ck1 (fun h35 => ?_)
    refine r_icmp_ge (pc := 202) X h34 h35 dX6_signs_202 (tgt := 243) (by decide) (fun h36 => ?_) (fun h36 => ?_)
    · refine r_sub [2] rfl ?_
      exact hk x4
    · refine r_iload (pc := 205) X 2 dX6_signs_205 rfl ?_
      refine r_aload_n (pc := 207) X 0 dX6_signs_207 rfl rfl ?_
      refine r_get (pc := 208) (v := .ref (kB K + 45)) X 35 13 inX6 rfl rfl (by decide) tf_X6_37 rfl dX6_signs_208 ?_
      refine r_iload (pc := 211) X 3 dX6_signs_211 rfl ?_
      refine r_ckA (fun h37 => ?_)
      refine r_iald (pc := 213) (f := m1 13) X 45 h37 zl_3400 rfl dX6_signs_213 ?_
      refine r_aload_n (pc := 214) X 0 dX6_signs_214 rfl rfl ?_
      refine r_get (pc := 215) (v := .ref (kB K + 45)) X 35 13 inX6 rfl rfl (by decide) tf_X6_37 rfl dX6_signs_215 ?_
      refine r_iload_n (pc := 218) X 1 dX6_signs_218 rfl rfl ?_
      refine r_ckA (fun h38 => ?_)
      refine r_iald (pc := 219) (f := m1 13) X 45 h38 zl_3400 rfl dX6_signs_219 ?_
      refine r_ck1 (fun h39 => ?_)
      refine r_ck1 (fun h40 => ?_)
      refine r_icmp_ne (pc := 220) X h39 h40 dX6_signs_220 (tgt := 233) (by decide) (fun h41 => ?_) (fun h41 => ?_)
      · refine r_iconst (pc := 233) X 0 dX6_signs_233 (by decide) ?_
        refine r_ior (pc := 234) X dX6_signs_234 ?_
        refine r_istore (pc := 235) (lv' := [(0, .ref (kB K + 35)), (3, vI x3), (4, vI (i_or x4 0)), (5, vI x5)]) X [1, 2, 0, 3] dX6_signs_235 (by decide) rfl ?_
        refine r_iinc (pc := 237) (lv' := [(0, .ref (kB K + 35)), (3, vI x3), (4, vI (i_or x4 0)), (5, vI (x5 + 1))]) X 3 [1, 2, 3, 0] dX6_signs_237 rfl (by decide) rfl ?_
        refine r_goto (pc := 240) X dX6_signs_240 (tgt := 199) (by decide) ?_
        exact ih (i_or x4 0) (x5 + 1)
      · refine r_aload_n (pc := 223) X 0 dX6_signs_223 rfl rfl ?_
        refine r_get (pc := 224) (v := .ref (kB K + 52)) X 35 21 inX6 rfl rfl (by decide) tf_X6_58 rfl dX6_signs_224 ?_
        refine r_iload (pc := 227) X 3 dX6_signs_227 rfl ?_
        refine r_ckA (fun h42 => ?_)
        refine r_iald (pc := 229) (f := m1 21) X 52 h42 zl_6400 rfl dX6_signs_229 ?_
        refine r_goto (pc := 230) X dX6_signs_230 (tgt := 234) (by decide) ?_
        refine r_ior (pc := 234) X dX6_signs_234 ?_
        refine r_istore (pc := 235) (lv' := [(0, .ref (kB K + 35)), (3, vI x3), (4, vI (i_or x4 (m1 21 x5))), (5, vI x5)]) X [1, 2, 0, 3] dX6_signs_235 (by decide) rfl ?_
        refine r_iinc (pc := 237) (lv' := [(0, .ref (kB K + 35)), (3, vI x3), (4, vI (i_or x4 (m1 21 x5))), (5, vI (x5 + 1))]) X 3 [1, 2, 3, 0] dX6_signs_237 rfl (by decide) rfl ?_
        refine r_goto (pc := 240) X dX6_signs_240 (tgt := 199) (by decide) ?_
        exact ih (i_or x4 (m1 21 x5)) (x5 + 1)
set_option maxRecDepth 100000 in
set_option maxHeartbeats 4000000 in
theorem t_X6_signs (N : Nat) (lt b c ms rd m : Bd) (P : PL) (x1 x2 : Int) (K : KT) (X : Kok K cX6_signs yX6_signs.cls lw_g ({ frames := 5, cells := 0, slots := 0, locals := 116 } : Room) (some .int) 10) : Rn K (Q_X6_signs K lt b c ms rd m P) 0 0 (f_X6_signs N m x1 x2) 0 [(0, .ref (kB K + 35)), (1, vI x1), (2, vI x2)] [] (Zw (kE K) lt b c ms rd m P) := by
  unfold f_X6_signs
  refine r_aload_n (pc := 0) X 0 dX6_signs_0 rfl rfl ?_
  refine r_iload_n (pc := 1) X 1 dX6_signs_1 rfl rfl ?_
  refine r_callV (pc := 2) (q0 := 35) (ci := 6) (As := [vI x1]) (rest := []) (W' := fun q2_1 => (Zw (kE K) lt b c ms rd m P)) (rv := fun q2_1 => some (vI q2_1)) X dX6_signs_2 rfl (fun a ha => c_X6_has N lt b c ms rd m P x1 K.1.2.1 K.2.2.1.1 (kE K) a ha) (fun a => Zw_d _ _ _ _ _ _ _ _) gd_X6_204 rfl (n := 1) (by decide) rfl (by decide) rfl rfl rfl (Nat.zero_le _) (fun q2_1 eq2_1 => ?_)
  show Rn K _ 0 0 _ 5 [(0, .ref (kB K + 35)), (1, vI x1), (2, vI x2)] [vI q2_1] (Zw (kE K) lt b c ms rd m P)
  refine r_jn (J := fun j16 => Rn K (Q_X6_signs K lt b c ms rd m P) 0 0 j16 16 [(0, .ref (kB K + 35))] [] (Zw (kE K) lt b c ms rd m P)) ?_ (fun j16 hj16 => ?_)
  · skip
    refine r_aload_n (pc := 16) X 0 dX6_signs_16 rfl rfl ?_
    refine r_bipush (pc := 17) X (-2) dX6_signs_17 (by decide) ?_
    refine r_callV (pc := 19) (q0 := 35) (ci := 6) (As := [vI (-2)]) (rest := []) (W' := fun q19_2 => (Zw (kE K) lt b c ms rd q19_2.2 P)) (rv := fun q19_2 => some (vI q19_2.1)) X dX6_signs_19 rfl (fun a ha => c_X6_refuses N lt b c ms rd m P (-2) K.1.2.1 K.2.2.1.1 (kE K) a ha) (fun a => Zw_d _ _ _ _ _ _ _ _) gd_X6_138 rfl (n := 1) (by decide) rfl (by decide) rfl rfl rfl (Nat.zero_le _) (fun q19_2 eq19_2 => ?_)
    show Rn K _ 0 0 _ 22 [(0, .ref (kB K + 35))] [vI q19_2.1] (Zw (kE K) lt b c ms rd q19_2.2 P)
    exact r_iret (pc := 22) X rfl rfl (by decide) dX6_signs_22
  refine r_ck1 (fun h3 => ?_)
  refine r_ifeq (pc := 5) X h3 dX6_signs_5 (tgt := 16) (by decide) (fun h4 => ?_) (fun h4 => ?_)
  · refine r_sub [0] rfl ?_
    exact hj16
  · refine r_aload_n (pc := 8) X 0 dX6_signs_8 rfl rfl ?_
    refine r_iload_n (pc := 9) X 2 dX6_signs_9 rfl rfl ?_
    refine r_callV (pc := 10) (q0 := 35) (ci := 6) (As := [vI x2]) (rest := []) (W' := fun q10_5 => (Zw (kE K) lt b c ms rd m P)) (rv := fun q10_5 => some (vI q10_5)) X dX6_signs_10 rfl (fun a ha => c_X6_has N lt b c ms rd m P x2 K.1.2.1 K.2.2.1.1 (kE K) a ha) (fun a => Zw_d _ _ _ _ _ _ _ _) gd_X6_204 rfl (n := 1) (by decide) rfl (by decide) rfl rfl rfl (Nat.zero_le _) (fun q10_5 eq10_5 => ?_)
    show Rn K _ 0 0 _ 13 [(0, .ref (kB K + 35)), (1, vI x1), (2, vI x2)] [vI q10_5] (Zw (kE K) lt b c ms rd m P)
    refine r_ck1 (fun h6 => ?_)
    refine r_ifne (pc := 13) X h6 dX6_signs_13 (tgt := 23) (by decide) (fun h7 => ?_) (fun h7 => ?_)
    · refine r_aload_n (pc := 23) X 0 dX6_signs_23 rfl rfl ?_
      refine r_iload_n (pc := 24) X 1 dX6_signs_24 rfl rfl ?_
      refine r_iload_n (pc := 25) X 2 dX6_signs_25 rfl rfl ?_
      refine r_callV (pc := 26) (q0 := 35) (ci := 6) (As := [vI x1, vI x2]) (rest := []) (W' := fun q26_8 => (Zw (kE K) lt b c ms rd q26_8.2 P)) (rv := fun q26_8 => some (vI q26_8.1)) X dX6_signs_26 rfl (fun a ha => c_X6_bothApart N lt b c ms rd m P x1 x2 K.1.2.1 K.2.2.1.1 (kE K) a ha) (fun a => Zw_d _ _ _ _ _ _ _ _) gd_X6_213 rfl (n := 2) (by decide) rfl (by decide) rfl rfl rfl (Nat.zero_le _) (fun q26_8 eq26_8 => ?_)
      show Rn K _ 0 0 _ 29 [(0, .ref (kB K + 35)), (1, vI x1), (2, vI x2)] [vI q26_8.1] (Zw (kE K) lt b c ms rd q26_8.2 P)
      refine r_istore_n (pc := 29) (lv' := [(0, .ref (kB K + 35)), (1, vI x1), (2, vI x2), (3, vI q26_8.1)]) X [1, 2, 3, 0] dX6_signs_29 rfl (by decide) rfl ?_
      refine r_iconst (pc := 30) X 0 dX6_signs_30 (by decide) ?_
      refine r_istore (pc := 31) (lv' := [(0, .ref (kB K + 35)), (1, vI x1), (2, vI x2), (3, vI q26_8.1), (4, vI 0)]) X [1, 2, 3, 4, 0] dX6_signs_31 (by decide) rfl ?_
      refine r_sub [0, 3, 4] rfl ?_
      refine t_X6_signs_L33 N lt b c ms rd m P  q26_8.1 K X _ ?_ N 0 q26_8.2
      intro m_33
      refine r_iconst (pc := 62) X 0 dX6_signs_62 (by decide) ?_
      refine r_istore (pc := 63) (lv' := [(0, .ref (kB K + 35)), (3, vI q26_8.1), (4, vI 0)]) X [1, 2, 0] dX6_signs_63 (by decide) rfl ?_
      refine t_X6_signs_L65 N lt b c ms rd m P  q26_8.1 K X _ ?_ N 0 m_33
      intro m_65
      refine r_iconst (pc := 193) X 0 dX6_signs_193 (by decide) ?_
      refine r_istore (pc := 194) (lv' := [(0, .ref (kB K + 35)), (3, vI q26_8.1), (4, vI 0)]) X [1, 2, 0] dX6_signs_194 (by decide) rfl ?_
      refine r_iconst (pc := 196) X 0 dX6_signs_196 (by decide) ?_
      refine r_istore (pc := 197) (lv' := [(0, .ref (kB K + 35)), (3, vI q26_8.1), (4, vI 0), (5, vI 0)]) X [1, 2, 3, 0] dX6_signs_197 (by decide) rfl ?_
      refine t_X6_signs_L199 N lt b c ms rd m P m_65 q26_8.1 K X _ ?_ N 0 0
      intro x4_199
      refine r_iload (pc := 243) X 0 dX6_signs_243 rfl ?_
      exact r_iret (pc := 245) X rfl rfl (by decide) dX6_signs_245
    · refine r_sub [0] rfl ?_
      exact hj16
theorem c_X6_signs (N : Nat) (lt b c ms rd m : Bd) (P : PL) (x1 x2 : Int) (l : Launch) (D : va_G) (E : ET) (a : Int × Bd) (ha : f_X6_signs N m x1 x2 = some a) : Ct l yX6_signs (Cond.code yX6_signs cX6_signs 10 (some .int) :: lw_g) ({ frames := 5, cells := 0, slots := 0, locals := 116 } : Room) D E [.ref (E.2.2.2 + 35), vI x1, vI x2] (Zw E lt b c ms rd m P) (Zw E lt b c ms rd a.2 P) (some (vI a.1)) :=
  ct_of (av := fun E => [.ref (E.2.2.2 + 35), vI x1, vI x2]) (W0 := fun E => Zw E lt b c ms rd m P) (W1 := fun E (a : Int × Bd) => Zw E lt b c ms rd a.2 P) (rw := fun E a => some (vI a.1)) (by decide) rfl (fun E => Zw_d E lt b c ms rd m P) (fun E => by simp [lg_sl, z_cat, z_catR, z_catI, z_catL]) (fun K X => r_lv (by simp [lv_args, z_cat, z_catR, z_catI, z_catL]) (t_X6_signs N lt b c ms rd m P x1 x2 K X)) l D E a ha
abbrev Q_X6_gives (K : KT) (lt b c ms rd m : Bd) (P : PL) : (Int × Bd) → State → Prop := Qm K ({ frames := 5, cells := 0, slots := 0, locals := 117 } : Room) (fun a : Int × Bd => Zw (kE K) lt b c ms rd a.2 P) (fun a => some (vI a.1))
set_option maxRecDepth 100000 in
set_option maxHeartbeats 4000000 in
theorem t_X6_gives_L23 (N : Nat) (lt b c ms rd m : Bd) (P : PL) (x2 : Int) (K : KT) (X : Kok K cX6_gives yX6_gives.cls lw_g ({ frames := 5, cells := 0, slots := 0, locals := 117 } : Room) (some .int) 4) (k : Bd → Option (Int × Bd)) (hk : ∀ (m1 : Bd), Rn K (Q_X6_gives K lt b c ms rd m P) 0 0 (k m1) 54 [(0, .ref (kB K + 35)), (2, vI x2)] [] (Zw (kE K) lt b c ms rd m1 P)) : ∀ (n : Nat) (x3 : Int) (m1 : Bd), Rn K (Q_X6_gives K lt b c ms rd m P) 0 0 (f_X6_gives_L23 x2 k n x3 m1) 23 [(0, .ref (kB K + 35)), (2, vI x2), (3, vI x3)] [] (Zw (kE K) lt b c ms rd m1 P) := by
  intro n
  induction n with
  | zero =>
    intro x3 m1
    rw [f_X6_gives_L23]
    exact r_none
  | succ n ih =>
    intro x3 m1
    rw [f_X6_gives_L23]
    refine r_iload_n (pc := 23) X 2 dX6_gives_23 rfl rfl ?_
    refine r_aload_n (pc := 24) X 0 dX6_gives_24 rfl rfl ?_
    refine r_get (pc := 25) (v := vI (m1 17 0)) X 35 17 inX6 rfl rfl (by decide) tf_X6_129 rfl dX6_gives_25 ?_
    refine r_ck1 (fun h5 => ?_)
    refine r_ck1 (fun h6 => ?_)
    refine r_icmp_ge (pc := 28) X h5 h6 dX6_gives_28 (tgt := 54) (by decide) (fun h7 => ?_) (fun h7 => ?_)
    · refine r_sub [0, 1] rfl ?_
      exact hk m1
    · refine r_aload_n (pc := 31) X 0 dX6_gives_31 rfl rfl ?_
      refine r_get (pc := 32) (v := .ref (kB K + 37)) X 35 1 inX6 rfl rfl (by decide) tf_X6_13 rfl dX6_gives_32 ?_
      refine r_bipush (pc := 35) X 40 dX6_gives_35 (by decide) ?_
      refine r_iload_n (pc := 37) X 1 dX6_gives_37 rfl rfl ?_
      refine r_imul (pc := 38) X dX6_gives_38 ?_
      refine r_iload_n (pc := 39) X 2 dX6_gives_39 rfl rfl ?_
      refine r_iadd (pc := 40) X dX6_gives_40 ?_
      refine r_aload_n (pc := 41) X 0 dX6_gives_41 rfl rfl ?_
      refine r_get (pc := 42) (v := .ref (kB K + 48)) X 35 16 inX6 rfl rfl (by decide) tf_X6_46 rfl dX6_gives_42 ?_
      refine r_iload_n (pc := 45) X 2 dX6_gives_45 rfl rfl ?_
      refine r_ckA (fun h8 => ?_)
      refine r_iald (pc := 46) (f := m1 16) X 48 h8 zl_41 rfl dX6_gives_46 ?_
      refine r_ckA (fun h9 => ?_)
      refine r_iast (pc := 47) (f := m1 1) (ws' := (Zw (kE K) lt b c ms rd (bS m1 1 (aS (m1 1) ((40 * x2) + x3) (m1 16 x3))) P)) X 37 h9 zl_320 rfl rfl dX6_gives_47 ?_
      refine r_iinc (pc := 48) (lv' := [(0, .ref (kB K + 35)), (2, vI x2), (3, vI (x3 + 1))]) X 2 [1, 2, 0] dX6_gives_48 rfl (by decide) rfl ?_
      refine r_goto (pc := 51) X dX6_gives_51 (tgt := 23) (by decide) ?_
      exact ih (x3 + 1) (bS m1 1 (aS (m1 1) ((40 * x2) + x3) (m1 16 x3)))
set_option maxRecDepth 100000 in
set_option maxHeartbeats 4000000 in
theorem t_X6_gives (N : Nat) (lt b c ms rd m : Bd) (P : PL) (x1 x2 : Int) (K : KT) (X : Kok K cX6_gives yX6_gives.cls lw_g ({ frames := 5, cells := 0, slots := 0, locals := 117 } : Room) (some .int) 4) : Rn K (Q_X6_gives K lt b c ms rd m P) 0 0 (f_X6_gives N m x1 x2) 0 [(0, .ref (kB K + 35)), (1, vI x1), (2, vI x2)] [] (Zw (kE K) lt b c ms rd m P) := by
  unfold f_X6_gives
  refine r_aload_n (pc := 0) X 0 dX6_gives_0 rfl rfl ?_
  refine r_iload_n (pc := 1) X 1 dX6_gives_1 rfl rfl ?_
  refine r_callV (pc := 2) (q0 := 35) (ci := 6) (As := [vI x1]) (rest := []) (W' := fun q2_1 => (Zw (kE K) lt b c ms rd q2_1.2 P)) (rv := fun q2_1 => some (vI q2_1.1)) X dX6_gives_2 rfl (fun a ha => c_X6_makes N lt b c ms rd m P x1 K.1.2.1 K.2.2.1.1 (kE K) a ha) (fun a => Zw_d _ _ _ _ _ _ _ _) gd_X6_135 rfl (n := 1) (by decide) rfl (by decide) rfl rfl rfl (Nat.zero_le _) (fun q2_1 eq2_1 => ?_)
  show Rn K _ 0 0 _ 5 [(0, .ref (kB K + 35)), (1, vI x1), (2, vI x2)] [vI q2_1.1] (Zw (kE K) lt b c ms rd q2_1.2 P)
  refine r_bipush (pc := 5) X 40 dX6_gives_5 (by decide) ?_
  refine r_ck1 (fun h2 => ?_)
  refine r_icmp_le (pc := 7) X h2 (by decide) dX6_gives_7 (tgt := 17) (by decide) (fun h3 => ?_) (fun h3 => ?_)
  · refine r_aload_n (pc := 17) X 0 dX6_gives_17 rfl rfl ?_
    refine r_callV (pc := 18) (q0 := 35) (ci := 6) (As := []) (rest := []) (W' := fun q18_4 => (Zw (kE K) lt b c ms rd q18_4 P)) (rv := fun q18_4 => none) X dX6_gives_18 rfl (fun a ha => c_X6_keeps N lt b c ms rd q2_1.2 P K.1.2.1 K.2.2.1.1 (kE K) a ha) (fun a => Zw_d _ _ _ _ _ _ _ _) gd_X6_141 rfl (n := 0) (by decide) rfl (by decide) rfl rfl rfl (Nat.zero_le _) (fun q18_4 eq18_4 => ?_)
    show Rn K _ 0 0 _ 21 [(0, .ref (kB K + 35)), (1, vI x1), (2, vI x2)] [] (Zw (kE K) lt b c ms rd q18_4 P)
    refine r_iconst (pc := 21) X 0 dX6_gives_21 (by decide) ?_
    refine r_istore_n (pc := 22) (lv' := [(0, .ref (kB K + 35)), (1, vI x1), (2, vI x2), (3, vI 0)]) X [1, 2, 3, 0] dX6_gives_22 rfl (by decide) rfl ?_
    refine r_sub [0, 2, 3] rfl ?_
    refine t_X6_gives_L23 N lt b c ms rd m P  x2 K X _ ?_ N 0 q18_4
    intro m_23
    refine r_aload_n (pc := 54) X 0 dX6_gives_54 rfl rfl ?_
    refine r_get (pc := 55) (v := .ref (kB K + 36)) X 35 0 inX6 rfl rfl (by decide) tf_X6_7 rfl dX6_gives_55 ?_
    refine r_iload_n (pc := 58) X 1 dX6_gives_58 rfl rfl ?_
    refine r_aload_n (pc := 59) X 0 dX6_gives_59 rfl rfl ?_
    refine r_get (pc := 60) (v := vI (m_23 17 0)) X 35 17 inX6 rfl rfl (by decide) tf_X6_129 rfl dX6_gives_60 ?_
    refine r_ckA (fun h10 => ?_)
    refine r_iast (pc := 63) (f := m_23 0) (ws' := (Zw (kE K) lt b c ms rd (bS m_23 0 (aS (m_23 0) x2 (m_23 17 0))) P)) X 36 h10 zl_8 rfl rfl dX6_gives_63 ?_
    refine r_aload_n (pc := 64) X 0 dX6_gives_64 rfl rfl ?_
    refine r_get (pc := 65) (v := vI (m_23 17 0)) X 35 17 inX6 rfl rfl (by decide) tf_X6_129 rfl dX6_gives_65 ?_
    exact r_iret (pc := 68) X rfl rfl (by decide) dX6_gives_68
  · refine r_aload_n (pc := 10) X 0 dX6_gives_10 rfl rfl ?_
    refine r_bipush (pc := 11) X (-4) dX6_gives_11 (by decide) ?_
    refine r_callV (pc := 13) (q0 := 35) (ci := 6) (As := [vI (-4)]) (rest := []) (W' := fun q13_11 => (Zw (kE K) lt b c ms rd q13_11.2 P)) (rv := fun q13_11 => some (vI q13_11.1)) X dX6_gives_13 rfl (fun a ha => c_X6_refuses N lt b c ms rd q2_1.2 P (-4) K.1.2.1 K.2.2.1.1 (kE K) a ha) (fun a => Zw_d _ _ _ _ _ _ _ _) gd_X6_138 rfl (n := 1) (by decide) rfl (by decide) rfl rfl rfl (Nat.zero_le _) (fun q13_11 eq13_11 => ?_)
    show Rn K _ 0 0 _ 16 [(0, .ref (kB K + 35)), (1, vI x1), (2, vI x2)] [vI q13_11.1] (Zw (kE K) lt b c ms rd q13_11.2 P)
    exact r_iret (pc := 16) X rfl rfl (by decide) dX6_gives_16
theorem c_X6_gives (N : Nat) (lt b c ms rd m : Bd) (P : PL) (x1 x2 : Int) (l : Launch) (D : va_G) (E : ET) (a : Int × Bd) (ha : f_X6_gives N m x1 x2 = some a) : Ct l yX6_gives (Cond.code yX6_gives cX6_gives 4 (some .int) :: lw_g) ({ frames := 5, cells := 0, slots := 0, locals := 117 } : Room) D E [.ref (E.2.2.2 + 35), vI x1, vI x2] (Zw E lt b c ms rd m P) (Zw E lt b c ms rd a.2 P) (some (vI a.1)) :=
  ct_of (av := fun E => [.ref (E.2.2.2 + 35), vI x1, vI x2]) (W0 := fun E => Zw E lt b c ms rd m P) (W1 := fun E (a : Int × Bd) => Zw E lt b c ms rd a.2 P) (rw := fun E a => some (vI a.1)) (by decide) rfl (fun E => Zw_d E lt b c ms rd m P) (fun E => by simp [lg_sl, z_cat, z_catR, z_catI, z_catL]) (fun K X => r_lv (by simp [lv_args, z_cat, z_catR, z_catI, z_catL]) (t_X6_gives N lt b c ms rd m P x1 x2 K X)) l D E a ha
abbrev Q_X6_base (K : KT) (lt b c ms rd m : Bd) (P : PL) : (Int × Bd) → State → Prop := Qm K ({ frames := 6, cells := 0, slots := 0, locals := 140 } : Room) (fun a : Int × Bd => Zw (kE K) lt b c ms rd a.2 P) (fun a => some (vI a.1))
set_option maxRecDepth 100000 in
set_option maxHeartbeats 4000000 in
theorem t_X6_base (N : Nat) (lt b c ms rd m : Bd) (P : PL) (x1 x2 : Int) (K : KT) (X : Kok K cX6_base yX6_base.cls lw_g ({ frames := 6, cells := 0, slots := 0, locals := 140 } : Room) (some .int) 3) : Rn K (Q_X6_base K lt b c ms rd m P) 0 0 (f_X6_base N m x1 x2) 0 [(0, .ref (kB K + 35)), (1, vI x1), (2, vI x2)] [] (Zw (kE K) lt b c ms rd m P) := by
  unfold f_X6_base
  refine r_iload_n (pc := 0) X 1 dX6_base_0 rfl rfl ?_
  refine r_iconst (pc := 1) X 0 dX6_base_1 (by decide) ?_
  refine r_iconst (pc := 2) X 3 dX6_base_2 (by decide) ?_
  refine r_callS (pc := 3) (As := [vI x1, vI 0, vI 3]) (rest := []) (W' := fun q3_1 => (Zw (kE K) lt b c ms rd m P)) (rv := fun q3_1 => some (vI q3_1)) X dX6_base_3 rfl (fun a ha => c_X6_in N lt b c ms rd m P x1 0 3 K.1.2.1 K.2.2.1.1 (kE K) a ha) (fun a => Zw_d _ _ _ _ _ _ _ _) gd_X6_86 rfl (n := 3) (by decide) rfl (by decide) (Nat.zero_le _) (fun q3_1 eq3_1 => ?_)
  show Rn K _ 0 0 _ 6 [(0, .ref (kB K + 35)), (1, vI x1), (2, vI x2)] [vI q3_1] (Zw (kE K) lt b c ms rd m P)
  refine r_jn (J := fun j16 => Rn K (Q_X6_base K lt b c ms rd m P) 0 0 j16 16 [(0, .ref (kB K + 35))] [] (Zw (kE K) lt b c ms rd m P)) ?_ (fun j16 hj16 => ?_)
  · skip
    refine r_aload_n (pc := 16) X 0 dX6_base_16 rfl rfl ?_
    refine r_bipush (pc := 17) X (-2) dX6_base_17 (by decide) ?_
    refine r_callV (pc := 19) (q0 := 35) (ci := 6) (As := [vI (-2)]) (rest := []) (W' := fun q19_2 => (Zw (kE K) lt b c ms rd q19_2.2 P)) (rv := fun q19_2 => some (vI q19_2.1)) X dX6_base_19 rfl (fun a ha => c_X6_refuses N lt b c ms rd m P (-2) K.1.2.1 K.2.2.1.1 (kE K) a ha) (fun a => Zw_d _ _ _ _ _ _ _ _) gd_X6_138 rfl (n := 1) (by decide) rfl (by decide) rfl rfl rfl (Nat.zero_le _) (fun q19_2 eq19_2 => ?_)
    show Rn K _ 0 0 _ 22 [(0, .ref (kB K + 35))] [vI q19_2.1] (Zw (kE K) lt b c ms rd q19_2.2 P)
    exact r_iret (pc := 22) X rfl rfl (by decide) dX6_base_22
  refine r_ck1 (fun h3 => ?_)
  refine r_ifeq (pc := 6) X h3 dX6_base_6 (tgt := 16) (by decide) (fun h4 => ?_) (fun h4 => ?_)
  · refine r_sub [0] rfl ?_
    exact hj16
  · refine r_iload_n (pc := 9) X 2 dX6_base_9 rfl rfl ?_
    refine r_callS (pc := 10) (As := [vI x2]) (rest := []) (W' := fun q10_5 => (Zw (kE K) lt b c ms rd m P)) (rv := fun q10_5 => some (vI q10_5)) X dX6_base_10 rfl (fun a ha => c_X6_isName N lt b c ms rd m P x2 K.1.2.1 K.2.2.1.1 (kE K) a ha) (fun a => Zw_d _ _ _ _ _ _ _ _) gd_X6_90 rfl (n := 1) (by decide) rfl (by decide) (Nat.zero_le _) (fun q10_5 eq10_5 => ?_)
    show Rn K _ 0 0 _ 13 [(0, .ref (kB K + 35)), (1, vI x1), (2, vI x2)] [vI q10_5] (Zw (kE K) lt b c ms rd m P)
    refine r_ck1 (fun h6 => ?_)
    refine r_ifne (pc := 13) X h6 dX6_base_13 (tgt := 23) (by decide) (fun h7 => ?_) (fun h7 => ?_)
    · refine r_aload_n (pc := 23) X 0 dX6_base_23 rfl rfl ?_
      refine r_iconst (pc := 24) X 0 dX6_base_24 (by decide) ?_
      refine r_put (pc := 25) (ws' := (Zw (kE K) lt b c ms rd (bs0 m 10 0) P)) X 35 10 inX6 tyX6 tyX6_ok nmX6 rfl rfl (by decide) tf_X6_94 rfl (tyX6_ok 10 (by decide)) rfl rfl (Nat.le_of_ble_eq_true rfl) rfl dX6_base_25 ?_
      refine r_aload_n (pc := 28) X 0 dX6_base_28 rfl rfl ?_
      refine r_aload_n (pc := 29) X 0 dX6_base_29 rfl rfl ?_
      refine r_iload_n (pc := 30) X 1 dX6_base_30 rfl rfl ?_
      refine r_iconst (pc := 31) X 0 dX6_base_31 (by decide) ?_
      refine r_iconst (pc := 32) X 0 dX6_base_32 (by decide) ?_
      refine r_callV (pc := 33) (q0 := 35) (ci := 6) (As := [vI x1, vI 0, vI 0]) (rest := [.ref (kB K + 35)]) (W' := fun q33_8 => (Zw (kE K) lt b c ms rd q33_8.2 P)) (rv := fun q33_8 => some (vI q33_8.1)) X dX6_base_33 rfl (fun a ha => c_X6_adds N lt b c ms rd (bs0 m 10 0) P x1 0 0 K.1.2.1 K.2.2.1.1 (kE K) a ha) (fun a => Zw_d _ _ _ _ _ _ _ _) gd_X6_110 rfl (n := 3) (by decide) rfl (by decide) rfl rfl rfl (by simp [z_cat, z_catR, z_catI, z_catL]) (fun q33_8 eq33_8 => ?_)
      show Rn K _ 0 0 _ 36 [(0, .ref (kB K + 35)), (1, vI x1), (2, vI x2)] [vI q33_8.1, .ref (kB K + 35)] (Zw (kE K) lt b c ms rd q33_8.2 P)
      refine r_iload_n (pc := 36) X 2 dX6_base_36 rfl rfl ?_
      refine r_callV (pc := 37) (q0 := 35) (ci := 6) (As := [vI q33_8.1, vI x2]) (rest := []) (W' := fun q37_9 => (Zw (kE K) lt b c ms rd q37_9.2 P)) (rv := fun q37_9 => some (vI q37_9.1)) X dX6_base_37 rfl (fun a ha => c_X6_gives N lt b c ms rd q33_8.2 P q33_8.1 x2 K.1.2.1 K.2.2.1.1 (kE K) a ha) (fun a => Zw_d _ _ _ _ _ _ _ _) gd_X6_236 rfl (n := 2) (by decide) rfl (by decide) rfl rfl rfl (Nat.zero_le _) (fun q37_9 eq37_9 => ?_)
      show Rn K _ 0 0 _ 40 [(0, .ref (kB K + 35)), (1, vI x1), (2, vI x2)] [vI q37_9.1] (Zw (kE K) lt b c ms rd q37_9.2 P)
      exact r_iret (pc := 40) X rfl rfl (by decide) dX6_base_40
    · refine r_sub [0] rfl ?_
      exact hj16
theorem c_X6_base (N : Nat) (lt b c ms rd m : Bd) (P : PL) (x1 x2 : Int) (l : Launch) (D : va_G) (E : ET) (a : Int × Bd) (ha : f_X6_base N m x1 x2 = some a) : Ct l yX6_base (Cond.code yX6_base cX6_base 3 (some .int) :: lw_g) ({ frames := 6, cells := 0, slots := 0, locals := 140 } : Room) D E [.ref (E.2.2.2 + 35), vI x1, vI x2] (Zw E lt b c ms rd m P) (Zw E lt b c ms rd a.2 P) (some (vI a.1)) :=
  ct_of (av := fun E => [.ref (E.2.2.2 + 35), vI x1, vI x2]) (W0 := fun E => Zw E lt b c ms rd m P) (W1 := fun E (a : Int × Bd) => Zw E lt b c ms rd a.2 P) (rw := fun E a => some (vI a.1)) (by decide) rfl (fun E => Zw_d E lt b c ms rd m P) (fun E => by simp [lg_sl, z_cat, z_catR, z_catI, z_catL]) (fun K X => r_lv (by simp [lv_args, z_cat, z_catR, z_catI, z_catL]) (t_X6_base N lt b c ms rd m P x1 x2 K X)) l D E a ha
abbrev Q_X6_make (K : KT) (lt b c ms rd m : Bd) (P : PL) : (Int × Bd) → State → Prop := Qm K ({ frames := 6, cells := 0, slots := 0, locals := 140 } : Room) (fun a : Int × Bd => Zw (kE K) lt b c ms rd a.2 P) (fun a => some (vI a.1))
set_option maxRecDepth 100000 in
set_option maxHeartbeats 4000000 in
theorem t_X6_make (N : Nat) (lt b c ms rd m : Bd) (P : PL) (x1 x2 x3 x4 : Int) (K : KT) (X : Kok K cX6_make yX6_make.cls lw_g ({ frames := 6, cells := 0, slots := 0, locals := 140 } : Room) (some .int) 6) : Rn K (Q_X6_make K lt b c ms rd m P) 0 0 (f_X6_make N m x1 x2 x3 x4) 0 [(0, .ref (kB K + 35)), (1, vI x1), (2, vI x2), (3, vI x3), (4, vI x4)] [] (Zw (kE K) lt b c ms rd m P) := by
  unfold f_X6_make
  refine r_iload_n (pc := 0) X 1 dX6_make_0 rfl rfl ?_
  refine r_iconst (pc := 1) X 4 dX6_make_1 (by decide) ?_
  refine r_bipush (pc := 2) X 6 dX6_make_2 (by decide) ?_
  refine r_callS (pc := 4) (As := [vI x1, vI 4, vI 6]) (rest := []) (W' := fun q4_1 => (Zw (kE K) lt b c ms rd m P)) (rv := fun q4_1 => some (vI q4_1)) X dX6_make_4 rfl (fun a ha => c_X6_in N lt b c ms rd m P x1 4 6 K.1.2.1 K.2.2.1.1 (kE K) a ha) (fun a => Zw_d _ _ _ _ _ _ _ _) gd_X6_86 rfl (n := 3) (by decide) rfl (by decide) (Nat.zero_le _) (fun q4_1 eq4_1 => ?_)
  show Rn K _ 0 0 _ 7 [(0, .ref (kB K + 35)), (1, vI x1), (2, vI x2), (3, vI x3), (4, vI x4)] [vI q4_1] (Zw (kE K) lt b c ms rd m P)
  refine r_jn (J := fun j34 => Rn K (Q_X6_make K lt b c ms rd m P) 0 0 j34 34 [(0, .ref (kB K + 35))] [] (Zw (kE K) lt b c ms rd m P)) ?_ (fun j34 hj34 => ?_)
  · skip
    refine r_aload_n (pc := 34) X 0 dX6_make_34 rfl rfl ?_
    refine r_bipush (pc := 35) X (-2) dX6_make_35 (by decide) ?_
    refine r_callV (pc := 37) (q0 := 35) (ci := 6) (As := [vI (-2)]) (rest := []) (W' := fun q37_2 => (Zw (kE K) lt b c ms rd q37_2.2 P)) (rv := fun q37_2 => some (vI q37_2.1)) X dX6_make_37 rfl (fun a ha => c_X6_refuses N lt b c ms rd m P (-2) K.1.2.1 K.2.2.1.1 (kE K) a ha) (fun a => Zw_d _ _ _ _ _ _ _ _) gd_X6_138 rfl (n := 1) (by decide) rfl (by decide) rfl rfl rfl (Nat.zero_le _) (fun q37_2 eq37_2 => ?_)
    show Rn K _ 0 0 _ 40 [(0, .ref (kB K + 35))] [vI q37_2.1] (Zw (kE K) lt b c ms rd q37_2.2 P)
    exact r_iret (pc := 40) X rfl rfl (by decide) dX6_make_40
  refine r_ck1 (fun h3 => ?_)
  refine r_ifeq (pc := 7) X h3 dX6_make_7 (tgt := 34) (by decide) (fun h4 => ?_) (fun h4 => ?_)
  · refine r_sub [0] rfl ?_
    exact hj34
  · refine r_aload_n (pc := 10) X 0 dX6_make_10 rfl rfl ?_
    refine r_iload_n (pc := 11) X 2 dX6_make_11 rfl rfl ?_
    refine r_callV (pc := 12) (q0 := 35) (ci := 6) (As := [vI x2]) (rest := []) (W' := fun q12_5 => (Zw (kE K) lt b c ms rd m P)) (rv := fun q12_5 => some (vI q12_5)) X dX6_make_12 rfl (fun a ha => c_X6_has N lt b c ms rd m P x2 K.1.2.1 K.2.2.1.1 (kE K) a ha) (fun a => Zw_d _ _ _ _ _ _ _ _) gd_X6_204 rfl (n := 1) (by decide) rfl (by decide) rfl rfl rfl (Nat.zero_le _) (fun q12_5 eq12_5 => ?_)
    show Rn K _ 0 0 _ 15 [(0, .ref (kB K + 35)), (1, vI x1), (2, vI x2), (3, vI x3), (4, vI x4)] [vI q12_5] (Zw (kE K) lt b c ms rd m P)
    refine r_ck1 (fun h6 => ?_)
    refine r_ifeq (pc := 15) X h6 dX6_make_15 (tgt := 34) (by decide) (fun h7 => ?_) (fun h7 => ?_)
    · refine r_sub [0] rfl ?_
      exact hj34
    · refine r_aload_n (pc := 18) X 0 dX6_make_18 rfl rfl ?_
      refine r_iload_n (pc := 19) X 3 dX6_make_19 rfl rfl ?_
      refine r_callV (pc := 20) (q0 := 35) (ci := 6) (As := [vI x3]) (rest := []) (W' := fun q20_8 => (Zw (kE K) lt b c ms rd m P)) (rv := fun q20_8 => some (vI q20_8)) X dX6_make_20 rfl (fun a ha => c_X6_has N lt b c ms rd m P x3 K.1.2.1 K.2.2.1.1 (kE K) a ha) (fun a => Zw_d _ _ _ _ _ _ _ _) gd_X6_204 rfl (n := 1) (by decide) rfl (by decide) rfl rfl rfl (Nat.zero_le _) (fun q20_8 eq20_8 => ?_)
      show Rn K _ 0 0 _ 23 [(0, .ref (kB K + 35)), (1, vI x1), (2, vI x2), (3, vI x3), (4, vI x4)] [vI q20_8] (Zw (kE K) lt b c ms rd m P)
      refine r_ck1 (fun h9 => ?_)
      refine r_ifeq (pc := 23) X h9 dX6_make_23 (tgt := 34) (by decide) (fun h10 => ?_) (fun h10 => ?_)
      · refine r_sub [0] rfl ?_
        exact hj34
      · refine r_iload (pc := 26) X 4 dX6_make_26 rfl ?_
        refine r_callS (pc := 28) (As := [vI x4]) (rest := []) (W' := fun q28_11 => (Zw (kE K) lt b c ms rd m P)) (rv := fun q28_11 => some (vI q28_11)) X dX6_make_28 rfl (fun a ha => c_X6_isName N lt b c ms rd m P x4 K.1.2.1 K.2.2.1.1 (kE K) a ha) (fun a => Zw_d _ _ _ _ _ _ _ _) gd_X6_90 rfl (n := 1) (by decide) rfl (by decide) (Nat.zero_le _) (fun q28_11 eq28_11 => ?_)
        show Rn K _ 0 0 _ 31 [(0, .ref (kB K + 35)), (1, vI x1), (2, vI x2), (3, vI x3), (4, vI x4)] [vI q28_11] (Zw (kE K) lt b c ms rd m P)
        refine r_ck1 (fun h12 => ?_)
        refine r_ifne (pc := 31) X h12 dX6_make_31 (tgt := 41) (by decide) (fun h13 => ?_) (fun h13 => ?_)
        · refine r_aload_n (pc := 41) X 0 dX6_make_41 rfl rfl ?_
          refine r_iload_n (pc := 42) X 2 dX6_make_42 rfl rfl ?_
          refine r_iload_n (pc := 43) X 3 dX6_make_43 rfl rfl ?_
          refine r_callV (pc := 44) (q0 := 35) (ci := 6) (As := [vI x2, vI x3]) (rest := []) (W' := fun q44_14 => (Zw (kE K) lt b c ms rd q44_14.2 P)) (rv := fun q44_14 => some (vI q44_14.1)) X dX6_make_44 rfl (fun a ha => c_X6_both N lt b c ms rd m P x2 x3 K.1.2.1 K.2.2.1.1 (kE K) a ha) (fun a => Zw_d _ _ _ _ _ _ _ _) gd_X6_207 rfl (n := 2) (by decide) rfl (by decide) rfl rfl rfl (Nat.zero_le _) (fun q44_14 eq44_14 => ?_)
          show Rn K _ 0 0 _ 47 [(0, .ref (kB K + 35)), (1, vI x1), (2, vI x2), (3, vI x3), (4, vI x4)] [vI q44_14.1] (Zw (kE K) lt b c ms rd q44_14.2 P)
          refine r_istore (pc := 47) (lv' := [(0, .ref (kB K + 35)), (1, vI x1), (2, vI x2), (3, vI x3), (4, vI x4), (5, vI q44_14.1)]) X [1, 2, 3, 4, 5, 0] dX6_make_47 (by decide) rfl ?_
          refine r_aload_n (pc := 49) X 0 dX6_make_49 rfl rfl ?_
          refine r_aload_n (pc := 50) X 0 dX6_make_50 rfl rfl ?_
          refine r_iload_n (pc := 51) X 1 dX6_make_51 rfl rfl ?_
          refine r_iconst (pc := 52) X 0 dX6_make_52 (by decide) ?_
          refine r_iload (pc := 53) X 5 dX6_make_53 rfl ?_
          refine r_callV (pc := 55) (q0 := 35) (ci := 6) (As := [vI x1, vI 0, vI q44_14.1]) (rest := [.ref (kB K + 35)]) (W' := fun q55_15 => (Zw (kE K) lt b c ms rd q55_15.2 P)) (rv := fun q55_15 => some (vI q55_15.1)) X dX6_make_55 rfl (fun a ha => c_X6_adds N lt b c ms rd q44_14.2 P x1 0 q44_14.1 K.1.2.1 K.2.2.1.1 (kE K) a ha) (fun a => Zw_d _ _ _ _ _ _ _ _) gd_X6_110 rfl (n := 3) (by decide) rfl (by decide) rfl rfl rfl (by simp [z_cat, z_catR, z_catI, z_catL]) (fun q55_15 eq55_15 => ?_)
          show Rn K _ 0 0 _ 58 [(0, .ref (kB K + 35)), (1, vI x1), (2, vI x2), (3, vI x3), (4, vI x4), (5, vI q44_14.1)] [vI q55_15.1, .ref (kB K + 35)] (Zw (kE K) lt b c ms rd q55_15.2 P)
          refine r_iload (pc := 58) X 4 dX6_make_58 rfl ?_
          refine r_callV (pc := 60) (q0 := 35) (ci := 6) (As := [vI q55_15.1, vI x4]) (rest := []) (W' := fun q60_16 => (Zw (kE K) lt b c ms rd q60_16.2 P)) (rv := fun q60_16 => some (vI q60_16.1)) X dX6_make_60 rfl (fun a ha => c_X6_gives N lt b c ms rd q55_15.2 P q55_15.1 x4 K.1.2.1 K.2.2.1.1 (kE K) a ha) (fun a => Zw_d _ _ _ _ _ _ _ _) gd_X6_236 rfl (n := 2) (by decide) rfl (by decide) rfl rfl rfl (Nat.zero_le _) (fun q60_16 eq60_16 => ?_)
          show Rn K _ 0 0 _ 63 [(0, .ref (kB K + 35)), (1, vI x1), (2, vI x2), (3, vI x3), (4, vI x4), (5, vI q44_14.1)] [vI q60_16.1] (Zw (kE K) lt b c ms rd q60_16.2 P)
          exact r_iret (pc := 63) X rfl rfl (by decide) dX6_make_63
        · refine r_sub [0] rfl ?_
          exact hj34
theorem c_X6_make (N : Nat) (lt b c ms rd m : Bd) (P : PL) (x1 x2 x3 x4 : Int) (l : Launch) (D : va_G) (E : ET) (a : Int × Bd) (ha : f_X6_make N m x1 x2 x3 x4 = some a) : Ct l yX6_make (Cond.code yX6_make cX6_make 6 (some .int) :: lw_g) ({ frames := 6, cells := 0, slots := 0, locals := 140 } : Room) D E [.ref (E.2.2.2 + 35), vI x1, vI x2, vI x3, vI x4] (Zw E lt b c ms rd m P) (Zw E lt b c ms rd a.2 P) (some (vI a.1)) :=
  ct_of (av := fun E => [.ref (E.2.2.2 + 35), vI x1, vI x2, vI x3, vI x4]) (W0 := fun E => Zw E lt b c ms rd m P) (W1 := fun E (a : Int × Bd) => Zw E lt b c ms rd a.2 P) (rw := fun E a => some (vI a.1)) (by decide) rfl (fun E => Zw_d E lt b c ms rd m P) (fun E => by simp [lg_sl, z_cat, z_catR, z_catI, z_catL]) (fun K X => r_lv (by simp [lv_args, z_cat, z_catR, z_catI, z_catL]) (t_X6_make N lt b c ms rd m P x1 x2 x3 x4 K X)) l D E a ha
abbrev Q_X6_part (K : KT) (lt b c ms rd m : Bd) (P : PL) : (Int × Bd) → State → Prop := Qm K ({ frames := 6, cells := 0, slots := 0, locals := 140 } : Room) (fun a : Int × Bd => Zw (kE K) lt b c ms rd a.2 P) (fun a => some (vI a.1))
set_option maxRecDepth 100000 in
set_option maxHeartbeats 4000000 in
theorem t_X6_part (N : Nat) (lt b c ms rd m : Bd) (P : PL) (x1 x2 x3 : Int) (K : KT) (X : Kok K cX6_part yX6_part.cls lw_g ({ frames := 6, cells := 0, slots := 0, locals := 140 } : Room) (some .int) 5) : Rn K (Q_X6_part K lt b c ms rd m P) 0 0 (f_X6_part N m x1 x2 x3) 0 [(0, .ref (kB K + 35)), (1, vI x1), (2, vI x2), (3, vI x3)] [] (Zw (kE K) lt b c ms rd m P) := by
  unfold f_X6_part
  refine r_aload_n (pc := 0) X 0 dX6_part_0 rfl rfl ?_
  refine r_iload_n (pc := 1) X 1 dX6_part_1 rfl rfl ?_
  refine r_callV (pc := 2) (q0 := 35) (ci := 6) (As := [vI x1]) (rest := []) (W' := fun q2_1 => (Zw (kE K) lt b c ms rd m P)) (rv := fun q2_1 => some (vI q2_1)) X dX6_part_2 rfl (fun a ha => c_X6_has N lt b c ms rd m P x1 K.1.2.1 K.2.2.1.1 (kE K) a ha) (fun a => Zw_d _ _ _ _ _ _ _ _) gd_X6_204 rfl (n := 1) (by decide) rfl (by decide) rfl rfl rfl (Nat.zero_le _) (fun q2_1 eq2_1 => ?_)
  show Rn K _ 0 0 _ 5 [(0, .ref (kB K + 35)), (1, vI x1), (2, vI x2), (3, vI x3)] [vI q2_1] (Zw (kE K) lt b c ms rd m P)
  refine r_jn (J := fun j24 => Rn K (Q_X6_part K lt b c ms rd m P) 0 0 j24 24 [(0, .ref (kB K + 35))] [] (Zw (kE K) lt b c ms rd m P)) ?_ (fun j24 hj24 => ?_)
  · skip
    refine r_aload_n (pc := 24) X 0 dX6_part_24 rfl rfl ?_
    refine r_bipush (pc := 25) X (-2) dX6_part_25 (by decide) ?_
    refine r_callV (pc := 27) (q0 := 35) (ci := 6) (As := [vI (-2)]) (rest := []) (W' := fun q27_2 => (Zw (kE K) lt b c ms rd q27_2.2 P)) (rv := fun q27_2 => some (vI q27_2.1)) X dX6_part_27 rfl (fun a ha => c_X6_refuses N lt b c ms rd m P (-2) K.1.2.1 K.2.2.1.1 (kE K) a ha) (fun a => Zw_d _ _ _ _ _ _ _ _) gd_X6_138 rfl (n := 1) (by decide) rfl (by decide) rfl rfl rfl (Nat.zero_le _) (fun q27_2 eq27_2 => ?_)
    show Rn K _ 0 0 _ 30 [(0, .ref (kB K + 35))] [vI q27_2.1] (Zw (kE K) lt b c ms rd q27_2.2 P)
    exact r_iret (pc := 30) X rfl rfl (by decide) dX6_part_30
  refine r_ck1 (fun h3 => ?_)
  refine r_ifeq (pc := 5) X h3 dX6_part_5 (tgt := 24) (by decide) (fun h4 => ?_) (fun h4 => ?_)
  · refine r_sub [0] rfl ?_
    exact hj24
  · refine r_iload_n (pc := 8) X 2 dX6_part_8 rfl rfl ?_
    refine r_iconst (pc := 9) X 0 dX6_part_9 (by decide) ?_
    refine r_iconst (pc := 10) X 1 dX6_part_10 (by decide) ?_
    refine r_callS (pc := 11) (As := [vI x2, vI 0, vI 1]) (rest := []) (W' := fun q11_5 => (Zw (kE K) lt b c ms rd m P)) (rv := fun q11_5 => some (vI q11_5)) X dX6_part_11 rfl (fun a ha => c_X6_in N lt b c ms rd m P x2 0 1 K.1.2.1 K.2.2.1.1 (kE K) a ha) (fun a => Zw_d _ _ _ _ _ _ _ _) gd_X6_86 rfl (n := 3) (by decide) rfl (by decide) (Nat.zero_le _) (fun q11_5 eq11_5 => ?_)
    show Rn K _ 0 0 _ 14 [(0, .ref (kB K + 35)), (1, vI x1), (2, vI x2), (3, vI x3)] [vI q11_5] (Zw (kE K) lt b c ms rd m P)
    refine r_ck1 (fun h6 => ?_)
    refine r_ifeq (pc := 14) X h6 dX6_part_14 (tgt := 24) (by decide) (fun h7 => ?_) (fun h7 => ?_)
    · refine r_sub [0] rfl ?_
      exact hj24
    · refine r_iload_n (pc := 17) X 3 dX6_part_17 rfl rfl ?_
      refine r_callS (pc := 18) (As := [vI x3]) (rest := []) (W' := fun q18_8 => (Zw (kE K) lt b c ms rd m P)) (rv := fun q18_8 => some (vI q18_8)) X dX6_part_18 rfl (fun a ha => c_X6_isName N lt b c ms rd m P x3 K.1.2.1 K.2.2.1.1 (kE K) a ha) (fun a => Zw_d _ _ _ _ _ _ _ _) gd_X6_90 rfl (n := 1) (by decide) rfl (by decide) (Nat.zero_le _) (fun q18_8 eq18_8 => ?_)
      show Rn K _ 0 0 _ 21 [(0, .ref (kB K + 35)), (1, vI x1), (2, vI x2), (3, vI x3)] [vI q18_8] (Zw (kE K) lt b c ms rd m P)
      refine r_ck1 (fun h9 => ?_)
      refine r_ifne (pc := 21) X h9 dX6_part_21 (tgt := 31) (by decide) (fun h10 => ?_) (fun h10 => ?_)
      · refine r_iload_n (pc := 31) X 2 dX6_part_31 rfl rfl ?_
        refine r_aload_n (pc := 32) X 0 dX6_part_32 rfl rfl ?_
        refine r_iload_n (pc := 33) X 1 dX6_part_33 rfl rfl ?_
        refine r_iconst (pc := 34) X 0 dX6_part_34 (by decide) ?_
        refine r_callV (pc := 35) (q0 := 35) (ci := 6) (As := [vI x1, vI 0]) (rest := [vI x2]) (W' := fun q35_11 => (Zw (kE K) lt b c ms rd m P)) (rv := fun q35_11 => some (vI q35_11)) X dX6_part_35 rfl (fun a ha => c_X6_nodeAt N lt b c ms rd m P x1 0 K.1.2.1 K.2.2.1.1 (kE K) a ha) (fun a => Zw_d _ _ _ _ _ _ _ _) gd_X6_216 rfl (n := 2) (by decide) rfl (by decide) rfl rfl rfl (by simp [z_cat, z_catR, z_catI, z_catL]) (fun q35_11 eq35_11 => ?_)
        show Rn K _ 0 0 _ 38 [(0, .ref (kB K + 35)), (1, vI x1), (2, vI x2), (3, vI x3)] [vI q35_11, vI x2] (Zw (kE K) lt b c ms rd m P)
        refine r_callS (pc := 38) (As := [vI q35_11]) (rest := [vI x2]) (W' := fun q38_12 => (Zw (kE K) lt b c ms rd m P)) (rv := fun q38_12 => some (vI q38_12)) X dX6_part_38 rfl (fun a ha => c_X6_headOf N lt b c ms rd m P q35_11 K.1.2.1 K.2.2.1.1 (kE K) a ha) (fun a => Zw_d _ _ _ _ _ _ _ _) gd_X6_102 rfl (n := 1) (by decide) rfl (by decide) (by simp [z_cat, z_catR, z_catI, z_catL]) (fun q38_12 eq38_12 => ?_)
        show Rn K _ 0 0 _ 41 [(0, .ref (kB K + 35)), (1, vI x1), (2, vI x2), (3, vI x3)] [vI q38_12, vI x2] (Zw (kE K) lt b c ms rd m P)
        refine r_callS (pc := 41) (As := [vI q38_12]) (rest := [vI x2]) (W' := fun q41_13 => (Zw (kE K) lt b c ms rd m P)) (rv := fun q41_13 => some (vI q41_13)) X dX6_part_41 rfl (fun a ha => c_X6_parts N lt b c ms rd m P q38_12 K.1.2.1 K.2.2.1.1 (kE K) a ha) (fun a => Zw_d _ _ _ _ _ _ _ _) gd_X6_113 rfl (n := 1) (by decide) rfl (by decide) (by simp [z_cat, z_catR, z_catI, z_catL]) (fun q41_13 eq41_13 => ?_)
        show Rn K _ 0 0 _ 44 [(0, .ref (kB K + 35)), (1, vI x1), (2, vI x2), (3, vI x3)] [vI q41_13, vI x2] (Zw (kE K) lt b c ms rd m P)
        refine r_ck1 (fun h14 => ?_)
        refine r_ck1 (fun h15 => ?_)
        refine r_icmp_lt (pc := 44) X h14 h15 dX6_part_44 (tgt := 54) (by decide) (fun h16 => ?_) (fun h16 => ?_)
        · refine r_aload_n (pc := 54) X 0 dX6_part_54 rfl rfl ?_
          refine r_iconst (pc := 55) X 0 dX6_part_55 (by decide) ?_
          refine r_put (pc := 56) (ws' := (Zw (kE K) lt b c ms rd (bs0 m 10 0) P)) X 35 10 inX6 tyX6 tyX6_ok nmX6 rfl rfl (by decide) tf_X6_94 rfl (tyX6_ok 10 (by decide)) rfl rfl (Nat.le_of_ble_eq_true rfl) rfl dX6_part_56 ?_
          refine r_aload_n (pc := 59) X 0 dX6_part_59 rfl rfl ?_
          refine r_iload_n (pc := 60) X 1 dX6_part_60 rfl rfl ?_
          refine r_callV (pc := 61) (q0 := 35) (ci := 6) (As := [vI x1]) (rest := []) (W' := fun q61_17 => (Zw (kE K) lt b c ms rd q61_17.2 P)) (rv := fun q61_17 => some (vI q61_17.1)) X dX6_part_61 rfl (fun a ha => c_X6_loads N lt b c ms rd (bs0 m 10 0) P x1 K.1.2.1 K.2.2.1.1 (kE K) a ha) (fun a => Zw_d _ _ _ _ _ _ _ _) gd_X6_192 rfl (n := 1) (by decide) rfl (by decide) rfl rfl rfl (Nat.zero_le _) (fun q61_17 eq61_17 => ?_)
          show Rn K _ 0 0 _ 64 [(0, .ref (kB K + 35)), (1, vI x1), (2, vI x2), (3, vI x3)] [vI q61_17.1] (Zw (kE K) lt b c ms rd q61_17.2 P)
          refine r_istore (pc := 64) (lv' := [(0, .ref (kB K + 35)), (1, vI x1), (2, vI x2), (3, vI x3), (4, vI q61_17.1)]) X [1, 2, 3, 4, 0] dX6_part_64 (by decide) rfl ?_
          refine r_aload_n (pc := 66) X 0 dX6_part_66 rfl rfl ?_
          refine r_aload_n (pc := 67) X 0 dX6_part_67 rfl rfl ?_
          refine r_get (pc := 68) (v := .ref (kB K + 42)) X 35 9 inX6 rfl rfl (by decide) tf_X6_28 rfl dX6_part_68 ?_
          refine r_iload (pc := 71) X 4 dX6_part_71 rfl ?_
          refine r_ckA (fun h18 => ?_)
          refine r_iald (pc := 73) (f := q61_17.2 9) X 42 h18 zl_3400 rfl dX6_part_73 ?_
          refine r_iload_n (pc := 74) X 2 dX6_part_74 rfl rfl ?_
          refine r_callS (pc := 75) (As := [vI (q61_17.2 9 q61_17.1), vI x2]) (rest := [.ref (kB K + 35)]) (W' := fun q75_19 => (Zw (kE K) lt b c ms rd q61_17.2 P)) (rv := fun q75_19 => some (vI q75_19)) X dX6_part_75 rfl (fun a ha => c_X6_partOf N lt b c ms rd q61_17.2 P (q61_17.2 9 q61_17.1) x2 K.1.2.1 K.2.2.1.1 (kE K) a ha) (fun a => Zw_d _ _ _ _ _ _ _ _) gd_X6_106 rfl (n := 2) (by decide) rfl (by decide) (by simp [z_cat, z_catR, z_catI, z_catL]) (fun q75_19 eq75_19 => ?_)
          show Rn K _ 0 0 _ 78 [(0, .ref (kB K + 35)), (1, vI x1), (2, vI x2), (3, vI x3), (4, vI q61_17.1)] [vI q75_19, .ref (kB K + 35)] (Zw (kE K) lt b c ms rd q61_17.2 P)
          refine r_iload_n (pc := 78) X 3 dX6_part_78 rfl rfl ?_
          refine r_callV (pc := 79) (q0 := 35) (ci := 6) (As := [vI q75_19, vI x3]) (rest := []) (W' := fun q79_20 => (Zw (kE K) lt b c ms rd q79_20.2 P)) (rv := fun q79_20 => some (vI q79_20.1)) X dX6_part_79 rfl (fun a ha => c_X6_gives N lt b c ms rd q61_17.2 P q75_19 x3 K.1.2.1 K.2.2.1.1 (kE K) a ha) (fun a => Zw_d _ _ _ _ _ _ _ _) gd_X6_236 rfl (n := 2) (by decide) rfl (by decide) rfl rfl rfl (Nat.zero_le _) (fun q79_20 eq79_20 => ?_)
          show Rn K _ 0 0 _ 82 [(0, .ref (kB K + 35)), (1, vI x1), (2, vI x2), (3, vI x3), (4, vI q61_17.1)] [vI q79_20.1] (Zw (kE K) lt b c ms rd q79_20.2 P)
          exact r_iret (pc := 82) X rfl rfl (by decide) dX6_part_82
        · refine r_aload_n (pc := 47) X 0 dX6_part_47 rfl rfl ?_
          refine r_bipush (pc := 48) X (-3) dX6_part_48 (by decide) ?_
          refine r_callV (pc := 50) (q0 := 35) (ci := 6) (As := [vI (-3)]) (rest := []) (W' := fun q50_21 => (Zw (kE K) lt b c ms rd q50_21.2 P)) (rv := fun q50_21 => some (vI q50_21.1)) X dX6_part_50 rfl (fun a ha => c_X6_refuses N lt b c ms rd m P (-3) K.1.2.1 K.2.2.1.1 (kE K) a ha) (fun a => Zw_d _ _ _ _ _ _ _ _) gd_X6_138 rfl (n := 1) (by decide) rfl (by decide) rfl rfl rfl (Nat.zero_le _) (fun q50_21 eq50_21 => ?_)
          show Rn K _ 0 0 _ 53 [(0, .ref (kB K + 35)), (1, vI x1), (2, vI x2), (3, vI x3)] [vI q50_21.1] (Zw (kE K) lt b c ms rd q50_21.2 P)
          exact r_iret (pc := 53) X rfl rfl (by decide) dX6_part_53
      · refine r_sub [0] rfl ?_
        exact hj24
theorem c_X6_part (N : Nat) (lt b c ms rd m : Bd) (P : PL) (x1 x2 x3 : Int) (l : Launch) (D : va_G) (E : ET) (a : Int × Bd) (ha : f_X6_part N m x1 x2 x3 = some a) : Ct l yX6_part (Cond.code yX6_part cX6_part 5 (some .int) :: lw_g) ({ frames := 6, cells := 0, slots := 0, locals := 140 } : Room) D E [.ref (E.2.2.2 + 35), vI x1, vI x2, vI x3] (Zw E lt b c ms rd m P) (Zw E lt b c ms rd a.2 P) (some (vI a.1)) :=
  ct_of (av := fun E => [.ref (E.2.2.2 + 35), vI x1, vI x2, vI x3]) (W0 := fun E => Zw E lt b c ms rd m P) (W1 := fun E (a : Int × Bd) => Zw E lt b c ms rd a.2 P) (rw := fun E a => some (vI a.1)) (by decide) rfl (fun E => Zw_d E lt b c ms rd m P) (fun E => by simp [lg_sl, z_cat, z_catR, z_catI, z_catL]) (fun K X => r_lv (by simp [lv_args, z_cat, z_catR, z_catI, z_catL]) (t_X6_part N lt b c ms rd m P x1 x2 x3 K X)) l D E a ha
abbrev Q_X6_copy (K : KT) (lt b c ms rd m : Bd) (P : PL) : (Int × Bd) → State → Prop := Qm K ({ frames := 6, cells := 0, slots := 0, locals := 140 } : Room) (fun a : Int × Bd => Zw (kE K) lt b c ms rd a.2 P) (fun a => some (vI a.1))
set_option maxRecDepth 100000 in
set_option maxHeartbeats 4000000 in
theorem t_X6_copy (N : Nat) (lt b c ms rd m : Bd) (P : PL) (x1 x2 : Int) (K : KT) (X : Kok K cX6_copy yX6_copy.cls lw_g ({ frames := 6, cells := 0, slots := 0, locals := 140 } : Room) (some .int) 3) : Rn K (Q_X6_copy K lt b c ms rd m P) 0 0 (f_X6_copy N m x1 x2) 0 [(0, .ref (kB K + 35)), (1, vI x1), (2, vI x2)] [] (Zw (kE K) lt b c ms rd m P) := by
  unfold f_X6_copy
  refine r_aload_n (pc := 0) X 0 dX6_copy_0 rfl rfl ?_
  refine r_iload_n (pc := 1) X 1 dX6_copy_1 rfl rfl ?_
  refine r_callV (pc := 2) (q0 := 35) (ci := 6) (As := [vI x1]) (rest := []) (W' := fun q2_1 => (Zw (kE K) lt b c ms rd m P)) (rv := fun q2_1 => some (vI q2_1)) X dX6_copy_2 rfl (fun a ha => c_X6_has N lt b c ms rd m P x1 K.1.2.1 K.2.2.1.1 (kE K) a ha) (fun a => Zw_d _ _ _ _ _ _ _ _) gd_X6_204 rfl (n := 1) (by decide) rfl (by decide) rfl rfl rfl (Nat.zero_le _) (fun q2_1 eq2_1 => ?_)
  show Rn K _ 0 0 _ 5 [(0, .ref (kB K + 35)), (1, vI x1), (2, vI x2)] [vI q2_1] (Zw (kE K) lt b c ms rd m P)
  refine r_jn (J := fun j15 => Rn K (Q_X6_copy K lt b c ms rd m P) 0 0 j15 15 [(0, .ref (kB K + 35))] [] (Zw (kE K) lt b c ms rd m P)) ?_ (fun j15 hj15 => ?_)
  · skip
    refine r_aload_n (pc := 15) X 0 dX6_copy_15 rfl rfl ?_
    refine r_bipush (pc := 16) X (-2) dX6_copy_16 (by decide) ?_
    refine r_callV (pc := 18) (q0 := 35) (ci := 6) (As := [vI (-2)]) (rest := []) (W' := fun q18_2 => (Zw (kE K) lt b c ms rd q18_2.2 P)) (rv := fun q18_2 => some (vI q18_2.1)) X dX6_copy_18 rfl (fun a ha => c_X6_refuses N lt b c ms rd m P (-2) K.1.2.1 K.2.2.1.1 (kE K) a ha) (fun a => Zw_d _ _ _ _ _ _ _ _) gd_X6_138 rfl (n := 1) (by decide) rfl (by decide) rfl rfl rfl (Nat.zero_le _) (fun q18_2 eq18_2 => ?_)
    show Rn K _ 0 0 _ 21 [(0, .ref (kB K + 35))] [vI q18_2.1] (Zw (kE K) lt b c ms rd q18_2.2 P)
    exact r_iret (pc := 21) X rfl rfl (by decide) dX6_copy_21
  refine r_ck1 (fun h3 => ?_)
  refine r_ifeq (pc := 5) X h3 dX6_copy_5 (tgt := 15) (by decide) (fun h4 => ?_) (fun h4 => ?_)
  · refine r_sub [0] rfl ?_
    exact hj15
  · refine r_iload_n (pc := 8) X 2 dX6_copy_8 rfl rfl ?_
    refine r_callS (pc := 9) (As := [vI x2]) (rest := []) (W' := fun q9_5 => (Zw (kE K) lt b c ms rd m P)) (rv := fun q9_5 => some (vI q9_5)) X dX6_copy_9 rfl (fun a ha => c_X6_isName N lt b c ms rd m P x2 K.1.2.1 K.2.2.1.1 (kE K) a ha) (fun a => Zw_d _ _ _ _ _ _ _ _) gd_X6_90 rfl (n := 1) (by decide) rfl (by decide) (Nat.zero_le _) (fun q9_5 eq9_5 => ?_)
    show Rn K _ 0 0 _ 12 [(0, .ref (kB K + 35)), (1, vI x1), (2, vI x2)] [vI q9_5] (Zw (kE K) lt b c ms rd m P)
    refine r_ck1 (fun h6 => ?_)
    refine r_ifne (pc := 12) X h6 dX6_copy_12 (tgt := 22) (by decide) (fun h7 => ?_) (fun h7 => ?_)
    · refine r_aload_n (pc := 22) X 0 dX6_copy_22 rfl rfl ?_
      refine r_iconst (pc := 23) X 0 dX6_copy_23 (by decide) ?_
      refine r_put (pc := 24) (ws' := (Zw (kE K) lt b c ms rd (bs0 m 10 0) P)) X 35 10 inX6 tyX6 tyX6_ok nmX6 rfl rfl (by decide) tf_X6_94 rfl (tyX6_ok 10 (by decide)) rfl rfl (Nat.le_of_ble_eq_true rfl) rfl dX6_copy_24 ?_
      refine r_aload_n (pc := 27) X 0 dX6_copy_27 rfl rfl ?_
      refine r_aload_n (pc := 28) X 0 dX6_copy_28 rfl rfl ?_
      refine r_iload_n (pc := 29) X 1 dX6_copy_29 rfl rfl ?_
      refine r_callV (pc := 30) (q0 := 35) (ci := 6) (As := [vI x1]) (rest := [.ref (kB K + 35)]) (W' := fun q30_8 => (Zw (kE K) lt b c ms rd q30_8.2 P)) (rv := fun q30_8 => some (vI q30_8.1)) X dX6_copy_30 rfl (fun a ha => c_X6_loads N lt b c ms rd (bs0 m 10 0) P x1 K.1.2.1 K.2.2.1.1 (kE K) a ha) (fun a => Zw_d _ _ _ _ _ _ _ _) gd_X6_192 rfl (n := 1) (by decide) rfl (by decide) rfl rfl rfl (by simp [z_cat, z_catR, z_catI, z_catL]) (fun q30_8 eq30_8 => ?_)
      show Rn K _ 0 0 _ 33 [(0, .ref (kB K + 35)), (1, vI x1), (2, vI x2)] [vI q30_8.1, .ref (kB K + 35)] (Zw (kE K) lt b c ms rd q30_8.2 P)
      refine r_iload_n (pc := 33) X 2 dX6_copy_33 rfl rfl ?_
      refine r_callV (pc := 34) (q0 := 35) (ci := 6) (As := [vI q30_8.1, vI x2]) (rest := []) (W' := fun q34_9 => (Zw (kE K) lt b c ms rd q34_9.2 P)) (rv := fun q34_9 => some (vI q34_9.1)) X dX6_copy_34 rfl (fun a ha => c_X6_gives N lt b c ms rd q30_8.2 P q30_8.1 x2 K.1.2.1 K.2.2.1.1 (kE K) a ha) (fun a => Zw_d _ _ _ _ _ _ _ _) gd_X6_236 rfl (n := 2) (by decide) rfl (by decide) rfl rfl rfl (Nat.zero_le _) (fun q34_9 eq34_9 => ?_)
      show Rn K _ 0 0 _ 37 [(0, .ref (kB K + 35)), (1, vI x1), (2, vI x2)] [vI q34_9.1] (Zw (kE K) lt b c ms rd q34_9.2 P)
      exact r_iret (pc := 37) X rfl rfl (by decide) dX6_copy_37
    · refine r_sub [0] rfl ?_
      exact hj15
theorem c_X6_copy (N : Nat) (lt b c ms rd m : Bd) (P : PL) (x1 x2 : Int) (l : Launch) (D : va_G) (E : ET) (a : Int × Bd) (ha : f_X6_copy N m x1 x2 = some a) : Ct l yX6_copy (Cond.code yX6_copy cX6_copy 3 (some .int) :: lw_g) ({ frames := 6, cells := 0, slots := 0, locals := 140 } : Room) D E [.ref (E.2.2.2 + 35), vI x1, vI x2] (Zw E lt b c ms rd m P) (Zw E lt b c ms rd a.2 P) (some (vI a.1)) :=
  ct_of (av := fun E => [.ref (E.2.2.2 + 35), vI x1, vI x2]) (W0 := fun E => Zw E lt b c ms rd m P) (W1 := fun E (a : Int × Bd) => Zw E lt b c ms rd a.2 P) (rw := fun E a => some (vI a.1)) (by decide) rfl (fun E => Zw_d E lt b c ms rd m P) (fun E => by simp [lg_sl, z_cat, z_catR, z_catI, z_catL]) (fun K X => r_lv (by simp [lv_args, z_cat, z_catR, z_catI, z_catL]) (t_X6_copy N lt b c ms rd m P x1 x2 K X)) l D E a ha
abbrev Q_X6_pairOf (K : KT) (lt b c ms rd m : Bd) (P : PL) : (Int × Bd) → State → Prop := Qm K ({ frames := 2, cells := 0, slots := 0, locals := 45 } : Room) (fun a : Int × Bd => Zw (kE K) lt b c ms rd a.2 P) (fun a => some (vI a.1))
set_option maxRecDepth 100000 in
set_option maxHeartbeats 4000000 in
theorem t_X6_pairOf (N : Nat) (lt b c ms rd m : Bd) (P : PL) (x1 x2 x3 x4 : Int) (K : KT) (X : Kok K cX6_pairOf yX6_pairOf.cls lw_g ({ frames := 2, cells := 0, slots := 0, locals := 45 } : Room) (some .int) 6) : Rn K (Q_X6_pairOf K lt b c ms rd m P) 0 0 (f_X6_pairOf m x1 x2 x3 x4) 0 [(0, .ref (kB K + 35)), (1, vI x1), (2, vI x2), (3, vI x3), (4, vI x4)] [] (Zw (kE K) lt b c ms rd m P) := by
  unfold f_X6_pairOf
  refine r_iconst (pc := 0) X 2 dX6_pairOf_0 (by decide) ?_
  refine r_bipush (pc := 1) X 40 dX6_pairOf_1 (by decide) ?_
  refine r_iload_n (pc := 3) X 1 dX6_pairOf_3 rfl rfl ?_
  refine r_imul (pc := 4) X dX6_pairOf_4 ?_
  refine r_iload_n (pc := 5) X 2 dX6_pairOf_5 rfl rfl ?_
  refine r_iadd (pc := 6) X dX6_pairOf_6 ?_
  refine r_iload (pc := 7) X 4 dX6_pairOf_7 rfl ?_
  refine r_isub (pc := 9) X dX6_pairOf_9 ?_
  refine r_imul (pc := 10) X dX6_pairOf_10 ?_
  refine r_iload_n (pc := 11) X 3 dX6_pairOf_11 rfl rfl ?_
  refine r_jn (J := fun j20 => ∀ (s1_20 : Int), Rn K (Q_X6_pairOf K lt b c ms rd m P) 0 0 (j20 s1_20) 20 [(0, .ref (kB K + 35))] [vI s1_20, vI (2 * (((40 * x1) + x2) - x4))] (Zw (kE K) lt b c ms rd m P)) ?_ (fun j20 hj20 => ?_)
  · intro s1_20
    refine r_iadd (pc := 20) X dX6_pairOf_20 ?_
    refine r_istore (pc := 21) (lv' := [(0, .ref (kB K + 35)), (5, vI ((2 * (((40 * x1) + x2) - x4)) + s1_20))]) X [1, 0] dX6_pairOf_21 (by decide) rfl ?_
    refine r_aload_n (pc := 23) X 0 dX6_pairOf_23 rfl rfl ?_
    refine r_get (pc := 24) (v := .ref (kB K + 49)) X 35 18 inX6 rfl rfl (by decide) tf_X6_49 rfl dX6_pairOf_24 ?_
    refine r_iload (pc := 27) X 1 dX6_pairOf_27 rfl ?_
    refine r_ckA (fun h1 => ?_)
    refine r_iald (pc := 29) (f := m 18) X 49 h1 zl_6400 rfl dX6_pairOf_29 ?_
    refine r_ck1 (fun h2 => ?_)
    refine r_ifne (pc := 30) X h2 dX6_pairOf_30 (tgt := 70) (by decide) (fun h3 => ?_) (fun h3 => ?_)
    · refine r_aload_n (pc := 70) X 0 dX6_pairOf_70 rfl rfl ?_
      refine r_get (pc := 71) (v := .ref (kB K + 49)) X 35 18 inX6 rfl rfl (by decide) tf_X6_49 rfl dX6_pairOf_71 ?_
      refine r_iload (pc := 74) X 1 dX6_pairOf_74 rfl ?_
      refine r_iald (pc := 76) (f := m 18) X 49 h1 zl_6400 rfl dX6_pairOf_76 ?_
      refine r_iconst (pc := 77) X 1 dX6_pairOf_77 (by decide) ?_
      refine r_isub (pc := 78) X dX6_pairOf_78 ?_
      exact r_iret (pc := 79) X rfl rfl (by decide) dX6_pairOf_79
    · refine r_aload_n (pc := 33) X 0 dX6_pairOf_33 rfl rfl ?_
      refine r_get (pc := 34) (v := .ref (kB K + 49)) X 35 18 inX6 rfl rfl (by decide) tf_X6_49 rfl dX6_pairOf_34 ?_
      refine r_iload (pc := 37) X 1 dX6_pairOf_37 rfl ?_
      refine r_aload_n (pc := 39) X 0 dX6_pairOf_39 rfl rfl ?_
      refine r_iconst (pc := 40) X 0 dX6_pairOf_40 (by decide) ?_
      refine r_iconst (pc := 41) X 0 dX6_pairOf_41 (by decide) ?_
      refine r_iconst (pc := 42) X 0 dX6_pairOf_42 (by decide) ?_
      refine r_callV (pc := 43) (q0 := 35) (ci := 6) (As := [vI 0, vI 0, vI 0]) (rest := [vI ((2 * (((40 * x1) + x2) - x4)) + s1_20), .ref (kB K + 49)]) (W' := fun q43_4 => (Zw (kE K) lt b c ms rd q43_4.2 P)) (rv := fun q43_4 => some (vI q43_4.1)) X dX6_pairOf_43 rfl (fun a ha => c_X6_adds N lt b c ms rd m P 0 0 0 K.1.2.1 K.2.2.1.1 (kE K) a ha) (fun a => Zw_d _ _ _ _ _ _ _ _) gd_X6_110 rfl (n := 3) (by decide) rfl (by decide) rfl rfl rfl (by simp [z_cat, z_catR, z_catI, z_catL]) (fun q43_4 eq43_4 => ?_)
      show Rn K _ 0 0 _ 46 [(0, .ref (kB K + 35)), (5, vI ((2 * (((40 * x1) + x2) - x4)) + s1_20))] [vI q43_4.1, vI ((2 * (((40 * x1) + x2) - x4)) + s1_20), .ref (kB K + 49)] (Zw (kE K) lt b c ms rd q43_4.2 P)
      refine r_iconst (pc := 46) X 1 dX6_pairOf_46 (by decide) ?_
      refine r_iadd (pc := 47) X dX6_pairOf_47 ?_
      refine r_iast (pc := 48) (f := q43_4.2 18) (ws' := (Zw (kE K) lt b c ms rd (bS q43_4.2 18 (aS (q43_4.2 18) ((2 * (((40 * x1) + x2) - x4)) + s1_20) (q43_4.1 + 1))) P)) X 49 h1 zl_6400 rfl rfl dX6_pairOf_48 ?_
      refine r_aload_n (pc := 49) X 0 dX6_pairOf_49 rfl rfl ?_
      refine r_get (pc := 50) (v := .ref (kB K + 50)) X 35 19 inX6 rfl rfl (by decide) tf_X6_52 rfl dX6_pairOf_50 ?_
      refine r_aload_n (pc := 53) X 0 dX6_pairOf_53 rfl rfl ?_
      refine r_get (pc := 54) (v := vI (q43_4.2 30 0)) X 35 30 inX6 rfl rfl (by decide) tf_X6_156 rfl dX6_pairOf_54 ?_
      refine r_iload (pc := 57) X 1 dX6_pairOf_57 rfl ?_
      refine r_ckA (fun h5 => ?_)
      refine r_iast (pc := 59) (f := q43_4.2 19) (ws' := (Zw (kE K) lt b c ms rd (bS (bS q43_4.2 18 (aS (q43_4.2 18) ((2 * (((40 * x1) + x2) - x4)) + s1_20) (q43_4.1 + 1))) 19 (aS (q43_4.2 19) (q43_4.2 30 0) ((2 * (((40 * x1) + x2) - x4)) + s1_20))) P)) X 50 h5 zl_6400 rfl rfl dX6_pairOf_59 ?_
      refine r_aload_n (pc := 60) X 0 dX6_pairOf_60 rfl rfl ?_
      refine r_dup (pc := 61) X dX6_pairOf_61 rfl ?_
      refine r_get (pc := 62) (v := vI (q43_4.2 30 0)) X 35 30 inX6 rfl rfl (by decide) tf_X6_156 rfl dX6_pairOf_62 ?_
      refine r_iconst (pc := 65) X 1 dX6_pairOf_65 (by decide) ?_
      refine r_iadd (pc := 66) X dX6_pairOf_66 ?_
      refine r_put (pc := 67) (ws' := (Zw (kE K) lt b c ms rd (bs0 (bS (bS q43_4.2 18 (aS (q43_4.2 18) ((2 * (((40 * x1) + x2) - x4)) + s1_20) (q43_4.1 + 1))) 19 (aS (q43_4.2 19) (q43_4.2 30 0) ((2 * (((40 * x1) + x2) - x4)) + s1_20))) 30 ((q43_4.2 30 0) + 1)) P)) X 35 30 inX6 tyX6 tyX6_ok nmX6 rfl rfl (by decide) tf_X6_156 rfl (tyX6_ok 30 (by decide)) rfl rfl (Nat.le_of_ble_eq_true rfl) rfl dX6_pairOf_67 ?_
      refine r_aload_n (pc := 70) X 0 dX6_pairOf_70 rfl rfl ?_
      refine r_get (pc := 71) (v := .ref (kB K + 49)) X 35 18 inX6 rfl rfl (by decide) tf_X6_49 rfl dX6_pairOf_71 ?_
      refine r_iload (pc := 74) X 1 dX6_pairOf_74 rfl ?_
      refine r_iald (pc := 76) (f := aS (q43_4.2 18) ((2 * (((40 * x1) + x2) - x4)) + s1_20) (q43_4.1 + 1)) X 49 h1 zl_6400 rfl dX6_pairOf_76 ?_
      refine r_iconst (pc := 77) X 1 dX6_pairOf_77 (by decide) ?_
      refine r_isub (pc := 78) X dX6_pairOf_78 ?_
      exact r_iret (pc := 79) X rfl rfl (by decide) dX6_pairOf_79
  refine r_ck1 (fun h6 => ?_)
  refine r_ifeq (pc := 12) X h6 dX6_pairOf_12 (tgt := 19) (by decide) (fun h7 => ?_) (fun h7 => ?_)
  · refine r_iconst (pc := 19) X 0 dX6_pairOf_19 (by decide) ?_
    refine r_sub [0] rfl ?_
    exact hj20 0
  · refine r_iconst (pc := 15) X 1 dX6_pairOf_15 (by decide) ?_
    refine r_goto (pc := 16) X dX6_pairOf_16 (tgt := 20) (by decide) ?_
    refine r_sub [0] rfl ?_
    exact hj20 1
theorem c_X6_pairOf (N : Nat) (lt b c ms rd m : Bd) (P : PL) (x1 x2 x3 x4 : Int) (l : Launch) (D : va_G) (E : ET) (a : Int × Bd) (ha : f_X6_pairOf m x1 x2 x3 x4 = some a) : Ct l yX6_pairOf (Cond.code yX6_pairOf cX6_pairOf 6 (some .int) :: lw_g) ({ frames := 2, cells := 0, slots := 0, locals := 45 } : Room) D E [.ref (E.2.2.2 + 35), vI x1, vI x2, vI x3, vI x4] (Zw E lt b c ms rd m P) (Zw E lt b c ms rd a.2 P) (some (vI a.1)) :=
  ct_of (av := fun E => [.ref (E.2.2.2 + 35), vI x1, vI x2, vI x3, vI x4]) (W0 := fun E => Zw E lt b c ms rd m P) (W1 := fun E (a : Int × Bd) => Zw E lt b c ms rd a.2 P) (rw := fun E a => some (vI a.1)) (by decide) rfl (fun E => Zw_d E lt b c ms rd m P) (fun E => by simp [lg_sl, z_cat, z_catR, z_catI, z_catL]) (fun K X => r_lv (by simp [lv_args, z_cat, z_catR, z_catI, z_catL]) (t_X6_pairOf N lt b c ms rd m P x1 x2 x3 x4 K X)) l D E a ha
abbrev Q_X6_tells (K : KT) (lt b c ms rd m : Bd) (P : PL) : (Bd) → State → Prop := Qm K ({ frames := 3, cells := 0, slots := 0, locals := 70 } : Room) (fun a : Bd => Zw (kE K) lt b c ms rd a P) (fun a => none)
set_option maxRecDepth 100000 in
set_option maxHeartbeats 4000000 in
theorem t_X6_tells (N : Nat) (lt b c ms rd m : Bd) (P : PL) (x1 x2 : Int) (K : KT) (X : Kok K cX6_tells yX6_tells.cls lw_g ({ frames := 3, cells := 0, slots := 0, locals := 70 } : Room) none 12) : Rn K (Q_X6_tells K lt b c ms rd m P) 0 0 (f_X6_tells m x1 x2) 0 [(0, .ref (kB K + 35)), (1, vI x1), (2, vI x2)] [] (Zw (kE K) lt b c ms rd m P) := by
  unfold f_X6_tells
  refine r_iload_n (pc := 0) X 1 dX6_tells_0 rfl rfl ?_
  refine r_iconst (pc := 1) X 2 dX6_tells_1 (by decide) ?_
  refine r_ck1 (fun h1 => ?_)
  refine r_irem (pc := 2) X h1 (by decide) (by decide) dX6_tells_2 ?_
  refine r_iconst (pc := 3) X 1 dX6_tells_3 (by decide) ?_
  refine r_jn (J := fun j12 => ∀ (s0_12 : Int), Rn K (Q_X6_tells K lt b c ms rd m P) 0 0 (j12 s0_12) 12 [(0, .ref (kB K + 35)), (1, vI x1), (2, vI x2)] [vI s0_12] (Zw (kE K) lt b c ms rd m P)) ?_ (fun j12 hj12 => ?_)
  · intro s0_12
    refine r_istore_n (pc := 12) (lv' := [(0, .ref (kB K + 35)), (1, vI x1), (2, vI x2), (3, vI s0_12)]) X [1, 2, 3, 0] dX6_tells_12 rfl (by decide) rfl ?_
    refine r_aload_n (pc := 13) X 0 dX6_tells_13 rfl rfl ?_
    refine r_get (pc := 14) (v := .ref (kB K + 42)) X 35 9 inX6 rfl rfl (by decide) tf_X6_28 rfl dX6_tells_14 ?_
    refine r_iload_n (pc := 17) X 1 dX6_tells_17 rfl rfl ?_
    refine r_iconst (pc := 18) X 2 dX6_tells_18 (by decide) ?_
    refine r_idiv (pc := 19) X h1 (by decide) (by decide) dX6_tells_19 ?_
    refine r_bipush (pc := 20) X 40 dX6_tells_20 (by decide) ?_
    refine r_ck1 (fun h2 => ?_)
    refine r_idiv (pc := 22) X h2 (by decide) (by decide) dX6_tells_22 ?_
    refine r_ckA (fun h3 => ?_)
    refine r_iald (pc := 23) (f := m 9) X 42 h3 zl_3400 rfl dX6_tells_23 ?_
    refine r_istore (pc := 24) (lv' := [(0, .ref (kB K + 35)), (1, vI x1), (2, vI x2), (3, vI s0_12), (4, vI (m 9 (Int.tdiv (Int.tdiv x1 2) 40)))]) X [1, 2, 3, 4, 0] dX6_tells_24 (by decide) rfl ?_
    refine r_aload_n (pc := 26) X 0 dX6_tells_26 rfl rfl ?_
    refine r_get (pc := 27) (v := .ref (kB K + 42)) X 35 9 inX6 rfl rfl (by decide) tf_X6_28 rfl dX6_tells_27 ?_
    refine r_iload_n (pc := 30) X 2 dX6_tells_30 rfl rfl ?_
    refine r_iload_n (pc := 31) X 1 dX6_tells_31 rfl rfl ?_
    refine r_iconst (pc := 32) X 2 dX6_tells_32 (by decide) ?_
    refine r_idiv (pc := 33) X h1 (by decide) (by decide) dX6_tells_33 ?_
    refine r_bipush (pc := 34) X 40 dX6_tells_34 (by decide) ?_
    refine r_irem (pc := 36) X h2 (by decide) (by decide) dX6_tells_36 ?_
    refine r_iadd (pc := 37) X dX6_tells_37 ?_
    refine r_ckA (fun h4 => ?_)
    refine r_iald (pc := 38) (f := m 9) X 42 h4 zl_3400 rfl dX6_tells_38 ?_
    refine r_istore (pc := 39) (lv' := [(0, .ref (kB K + 35)), (1, vI x1), (2, vI x2), (3, vI s0_12), (4, vI (m 9 (Int.tdiv (Int.tdiv x1 2) 40))), (5, vI (m 9 (x2 + (Int.tmod (Int.tdiv x1 2) 40))))]) X [1, 2, 3, 4, 5, 0] dX6_tells_39 (by decide) rfl ?_
    refine r_aload_n (pc := 41) X 0 dX6_tells_41 rfl rfl ?_
    refine r_get (pc := 42) (v := .ref (kB K + 49)) X 35 18 inX6 rfl rfl (by decide) tf_X6_49 rfl dX6_tells_42 ?_
    refine r_iload_n (pc := 45) X 1 dX6_tells_45 rfl rfl ?_
    refine r_ckA (fun h5 => ?_)
    refine r_iald (pc := 46) (f := m 18) X 49 h5 zl_6400 rfl dX6_tells_46 ?_
    refine r_iconst (pc := 47) X 1 dX6_tells_47 (by decide) ?_
    refine r_isub (pc := 48) X dX6_tells_48 ?_
    refine r_istore (pc := 49) (lv' := [(0, .ref (kB K + 35)), (1, vI x1), (2, vI x2), (3, vI s0_12), (4, vI (m 9 (Int.tdiv (Int.tdiv x1 2) 40))), (5, vI (m 9 (x2 + (Int.tmod (Int.tdiv x1 2) 40)))), (6, vI ((m 18 x1) - 1))]) X [1, 2, 3, 4, 5, 6, 0] dX6_tells_49 (by decide) rfl ?_
    refine r_iload (pc := 51) X 4 dX6_tells_51 rfl ?_
    refine r_callS (pc := 53) (As := [vI (m 9 (Int.tdiv (Int.tdiv x1 2) 40))]) (rest := []) (W' := fun q53_6 => (Zw (kE K) lt b c ms rd m P)) (rv := fun q53_6 => some (vI q53_6)) X dX6_tells_53 rfl (fun a ha => c_X6_headOf N lt b c ms rd m P (m 9 (Int.tdiv (Int.tdiv x1 2) 40)) K.1.2.1 K.2.2.1.1 (kE K) a ha) (fun a => Zw_d _ _ _ _ _ _ _ _) gd_X6_102 rfl (n := 1) (by decide) rfl (by decide) (Nat.zero_le _) (fun q53_6 eq53_6 => ?_)
    show Rn K _ 0 0 _ 56 [(0, .ref (kB K + 35)), (1, vI x1), (2, vI x2), (3, vI s0_12), (4, vI (m 9 (Int.tdiv (Int.tdiv x1 2) 40))), (5, vI (m 9 (x2 + (Int.tmod (Int.tdiv x1 2) 40)))), (6, vI ((m 18 x1) - 1))] [vI q53_6] (Zw (kE K) lt b c ms rd m P)
    refine r_istore (pc := 56) (lv' := [(0, .ref (kB K + 35)), (1, vI x1), (2, vI x2), (3, vI s0_12), (4, vI (m 9 (Int.tdiv (Int.tdiv x1 2) 40))), (5, vI (m 9 (x2 + (Int.tmod (Int.tdiv x1 2) 40)))), (6, vI ((m 18 x1) - 1)), (7, vI q53_6)]) X [1, 2, 3, 4, 5, 6, 7, 0] dX6_tells_56 (by decide) rfl ?_
    refine r_iload (pc := 58) X 5 dX6_tells_58 rfl ?_
    refine r_callS (pc := 60) (As := [vI (m 9 (x2 + (Int.tmod (Int.tdiv x1 2) 40)))]) (rest := []) (W' := fun q60_7 => (Zw (kE K) lt b c ms rd m P)) (rv := fun q60_7 => some (vI q60_7)) X dX6_tells_60 rfl (fun a ha => c_X6_headOf N lt b c ms rd m P (m 9 (x2 + (Int.tmod (Int.tdiv x1 2) 40))) K.1.2.1 K.2.2.1.1 (kE K) a ha) (fun a => Zw_d _ _ _ _ _ _ _ _) gd_X6_102 rfl (n := 1) (by decide) rfl (by decide) (Nat.zero_le _) (fun q60_7 eq60_7 => ?_)
    show Rn K _ 0 0 _ 63 [(0, .ref (kB K + 35)), (1, vI x1), (2, vI x2), (3, vI s0_12), (4, vI (m 9 (Int.tdiv (Int.tdiv x1 2) 40))), (5, vI (m 9 (x2 + (Int.tmod (Int.tdiv x1 2) 40)))), (6, vI ((m 18 x1) - 1)), (7, vI q53_6)] [vI q60_7] (Zw (kE K) lt b c ms rd m P)
    refine r_istore (pc := 63) (lv' := [(0, .ref (kB K + 35)), (1, vI x1), (2, vI x2), (3, vI s0_12), (4, vI (m 9 (Int.tdiv (Int.tdiv x1 2) 40))), (5, vI (m 9 (x2 + (Int.tmod (Int.tdiv x1 2) 40)))), (6, vI ((m 18 x1) - 1)), (7, vI q53_6), (8, vI q60_7)]) X [1, 2, 3, 4, 5, 6, 7, 8, 0] dX6_tells_63 (by decide) rfl ?_
    refine r_iload_n (pc := 65) X 3 dX6_tells_65 rfl rfl ?_
    refine r_jn (J := fun j74 => ∀ (s0_74 : Int), Rn K (Q_X6_tells K lt b c ms rd m P) 0 0 (j74 s0_74) 74 [(0, .ref (kB K + 35)), (2, vI x2), (3, vI s0_12), (4, vI (m 9 (Int.tdiv (Int.tdiv x1 2) 40))), (5, vI (m 9 (x2 + (Int.tmod (Int.tdiv x1 2) 40)))), (6, vI ((m 18 x1) - 1)), (7, vI q53_6), (8, vI q60_7)] [vI s0_74] (Zw (kE K) lt b c ms rd m P)) ?_ (fun j74 hj74 => ?_)
    · intro s0_74
      refine r_istore (pc := 74) (lv' := [(0, .ref (kB K + 35)), (2, vI x2), (3, vI s0_12), (4, vI (m 9 (Int.tdiv (Int.tdiv x1 2) 40))), (5, vI (m 9 (x2 + (Int.tmod (Int.tdiv x1 2) 40)))), (6, vI ((m 18 x1) - 1)), (7, vI q53_6), (8, vI q60_7), (9, vI s0_74)]) X [1, 2, 3, 4, 5, 6, 7, 8, 0] dX6_tells_74 (by decide) rfl ?_
      refine r_iload_n (pc := 76) X 2 dX6_tells_76 rfl rfl ?_
      refine r_jn (J := fun j85 => ∀ (s0_85 : Int), Rn K (Q_X6_tells K lt b c ms rd m P) 0 0 (j85 s0_85) 85 [(0, .ref (kB K + 35)), (2, vI x2), (3, vI s0_12), (4, vI (m 9 (Int.tdiv (Int.tdiv x1 2) 40))), (5, vI (m 9 (x2 + (Int.tmod (Int.tdiv x1 2) 40)))), (6, vI ((m 18 x1) - 1)), (7, vI q53_6), (8, vI q60_7), (9, vI s0_74)] [vI s0_85] (Zw (kE K) lt b c ms rd m P)) ?_ (fun j85 hj85 => ?_)
      · intro s0_85
        refine r_istore (pc := 85) (lv' := [(0, .ref (kB K + 35)), (2, vI x2), (3, vI s0_12), (4, vI (m 9 (Int.tdiv (Int.tdiv x1 2) 40))), (5, vI (m 9 (x2 + (Int.tmod (Int.tdiv x1 2) 40)))), (6, vI ((m 18 x1) - 1)), (7, vI q53_6), (8, vI q60_7), (9, vI s0_74), (10, vI s0_85)]) X [1, 2, 3, 4, 5, 6, 7, 8, 9, 0] dX6_tells_85 (by decide) rfl ?_
        refine r_iload (pc := 87) X 6 dX6_tells_87 rfl ?_
        refine r_iload (pc := 89) X 8 dX6_tells_89 rfl ?_
        refine r_ck1 (fun h8 => ?_)
        refine r_ck1 (fun h9 => ?_)
        refine r_icmp_ne (pc := 91) X h8 h9 dX6_tells_91 (tgt := 106) (by decide) (fun h10 => ?_) (fun h10 => ?_)
        · refine r_iload (pc := 106) X 7 dX6_tells_106 rfl ?_
          refine r_iload (pc := 108) X 8 dX6_tells_108 rfl ?_
          refine r_ck1 (fun h11 => ?_)
          refine r_icmp_ne (pc := 110) X h11 h9 dX6_tells_110 (tgt := 125) (by decide) (fun h12 => ?_) (fun h12 => ?_)
          · refine r_iload (pc := 125) X 6 dX6_tells_125 rfl ?_
            refine r_iload (pc := 127) X 7 dX6_tells_127 rfl ?_
            refine r_jn (J := fun j171 => Rn K (Q_X6_tells K lt b c ms rd m P) 0 0 j171 171 [(0, .ref (kB K + 35)), (2, vI x2), (3, vI s0_12), (4, vI (m 9 (Int.tdiv (Int.tdiv x1 2) 40))), (5, vI (m 9 (x2 + (Int.tmod (Int.tdiv x1 2) 40)))), (6, vI ((m 18 x1) - 1)), (7, vI q53_6), (8, vI q60_7), (10, vI s0_85)] [] (Zw (kE K) lt b c ms rd m P)) ?_ (fun j171 hj171 => ?_)
            · skip
              refine r_iload (pc := 171) X 6 dX6_tells_171 rfl ?_
              refine r_iload (pc := 173) X 7 dX6_tells_173 rfl ?_
              refine r_jn (J := fun j261 => Rn K (Q_X6_tells K lt b c ms rd m P) 0 0 j261 261 [(0, .ref (kB K + 35)), (3, vI s0_12), (6, vI ((m 18 x1) - 1)), (7, vI q53_6), (8, vI q60_7), (10, vI s0_85)] [] (Zw (kE K) lt b c ms rd m P)) ?_ (fun j261 hj261 => ?_)
              · skip
                refine r_iload (pc := 261) X 3 dX6_tells_261 rfl ?_
                refine r_iload (pc := 263) X 4 dX6_tells_263 rfl ?_
                refine r_icmp_ne (pc := 265) X h8 h11 dX6_tells_265 (tgt := 285) (by decide) (fun h13 => ?_) (fun h13 => ?_)
                · refine r_iload (pc := 285) X 3 dX6_tells_285 rfl ?_
                  refine r_iload (pc := 287) X 4 dX6_tells_287 rfl ?_
                  refine r_iadd (pc := 289) X dX6_tells_289 ?_
                  refine r_iconst (pc := 290) X 3 dX6_tells_290 (by decide) ?_
                  refine r_jn (J := fun j328 => Rn K (Q_X6_tells K lt b c ms rd m P) 0 0 j328 328 [(0, .ref (kB K + 35)), (6, vI ((m 18 x1) - 1)), (10, vI s0_85)] [] (Zw (kE K) lt b c ms rd m P)) ?_ (fun j328 hj328 => ?_)
                  · skip
                    refine r_aload_n (pc := 328) X 0 dX6_tells_328 rfl rfl ?_
                    refine r_get (pc := 329) (v := .ref (kB K + 42)) X 35 9 inX6 rfl rfl (by decide) tf_X6_28 rfl dX6_tells_329 ?_
                    refine r_iload (pc := 332) X 1 dX6_tells_332 rfl ?_
                    refine r_iload (pc := 334) X 2 dX6_tells_334 rfl ?_
                    refine r_iconst (pc := 336) X 0 dX6_tells_336 (by decide) ?_
                    refine r_iconst (pc := 337) X 0 dX6_tells_337 (by decide) ?_
                    refine r_callS (pc := 338) (As := [vI s0_85, vI 0, vI 0]) (rest := [vI ((m 18 x1) - 1), .ref (kB K + 42)]) (W' := fun q338_14 => (Zw (kE K) lt b c ms rd m P)) (rv := fun q338_14 => some (vI q338_14)) X dX6_tells_338 rfl (fun a ha => c_X6_node N lt b c ms rd m P s0_85 0 0 K.1.2.1 K.2.2.1.1 (kE K) a ha) (fun a => Zw_d _ _ _ _ _ _ _ _) gd_X6_98 rfl (n := 3) (by decide) rfl (by decide) (by simp [z_cat, z_catR, z_catI, z_catL]) (fun q338_14 eq338_14 => ?_)
                    show Rn K _ 0 0 _ 341 [(0, .ref (kB K + 35)), (6, vI ((m 18 x1) - 1)), (10, vI s0_85)] [vI q338_14, vI ((m 18 x1) - 1), .ref (kB K + 42)] (Zw (kE K) lt b c ms rd m P)
                    refine r_ckA (fun h15 => ?_)
                    refine r_iast (pc := 341) (f := m 9) (ws' := (Zw (kE K) lt b c ms rd (bS m 9 (aS (m 9) ((m 18 x1) - 1) q338_14)) P)) X 42 h15 zl_3400 rfl rfl dX6_tells_341 ?_
                    exact r_vret (pc := 342) X rfl rfl (by decide) dX6_tells_342
                  refine r_ck1 (fun h16 => ?_)
                  refine r_icmp_ne (pc := 291) X h16 (by decide) dX6_tells_291 (tgt := 328) (by decide) (fun h17 => ?_) (fun h17 => ?_)
                  · refine r_sub [0, 2, 5] rfl ?_
                    exact hj328
                  · refine r_iload (pc := 294) X 3 dX6_tells_294 rfl ?_
                    refine r_ifle (pc := 296) X h8 dX6_tells_296 (tgt := 328) (by decide) (fun h18 => ?_) (fun h18 => ?_)
                    · refine r_sub [0, 2, 5] rfl ?_
                      exact hj328
                    · refine r_iload (pc := 299) X 4 dX6_tells_299 rfl ?_
                      refine r_ifle (pc := 301) X h11 dX6_tells_301 (tgt := 328) (by decide) (fun h19 => ?_) (fun h19 => ?_)
                      · refine r_sub [0, 2, 5] rfl ?_
                        exact hj328
                      · refine r_aload_n (pc := 304) X 0 dX6_tells_304 rfl rfl ?_
                        refine r_get (pc := 305) (v := .ref (kB K + 42)) X 35 9 inX6 rfl rfl (by decide) tf_X6_28 rfl dX6_tells_305 ?_
                        refine r_iload (pc := 308) X 2 dX6_tells_308 rfl ?_
                        refine r_iload_n (pc := 310) X 1 dX6_tells_310 rfl rfl ?_
                        refine r_jn (J := fun j319 => ∀ (s2_319 : Int), Rn K (Q_X6_tells K lt b c ms rd m P) 0 0 (j319 s2_319) 319 [] [vI s2_319, vI ((m 18 x1) - 1), .ref (kB K + 42)] (Zw (kE K) lt b c ms rd m P)) ?_ (fun j319 hj319 => ?_)
                        · intro s2_319
                          refine r_iconst (pc := 319) X 0 dX6_tells_319 (by decide) ?_
                          refine r_iconst (pc := 320) X 0 dX6_tells_320 (by decide) ?_
                          refine r_callS (pc := 321) (As := [vI s2_319, vI 0, vI 0]) (rest := [vI ((m 18 x1) - 1), .ref (kB K + 42)]) (W' := fun q321_20 => (Zw (kE K) lt b c ms rd m P)) (rv := fun q321_20 => some (vI q321_20)) X dX6_tells_321 rfl (fun a ha => c_X6_node N lt b c ms rd m P s2_319 0 0 K.1.2.1 K.2.2.1.1 (kE K) a ha) (fun a => Zw_d _ _ _ _ _ _ _ _) gd_X6_98 rfl (n := 3) (by decide) rfl (by decide) (by simp [z_cat, z_catR, z_catI, z_catL]) (fun q321_20 eq321_20 => ?_)
                          show Rn K _ 0 0 _ 324 [] [vI q321_20, vI ((m 18 x1) - 1), .ref (kB K + 42)] (Zw (kE K) lt b c ms rd m P)
                          refine r_ckA (fun h21 => ?_)
                          refine r_iast (pc := 324) (f := m 9) (ws' := (Zw (kE K) lt b c ms rd (bS m 9 (aS (m 9) ((m 18 x1) - 1) q321_20)) P)) X 42 h21 zl_3400 rfl rfl dX6_tells_324 ?_
                          refine r_goto (pc := 325) X dX6_tells_325 (tgt := 342) (by decide) ?_
                          exact r_vret (pc := 342) X rfl rfl (by decide) dX6_tells_342
                        refine r_ck1 (fun h22 => ?_)
                        refine r_ifeq (pc := 311) X h22 dX6_tells_311 (tgt := 318) (by decide) (fun h23 => ?_) (fun h23 => ?_)
                        · refine r_iconst (pc := 318) X 1 dX6_tells_318 (by decide) ?_
                          refine r_sub [] rfl ?_
                          exact hj319 1
                        · refine r_iconst (pc := 314) X 2 dX6_tells_314 (by decide) ?_
                          refine r_goto (pc := 315) X dX6_tells_315 (tgt := 319) (by decide) ?_
                          refine r_sub [] rfl ?_
                          exact hj319 2
                · refine r_aload_n (pc := 268) X 0 dX6_tells_268 rfl rfl ?_
                  refine r_get (pc := 269) (v := .ref (kB K + 42)) X 35 9 inX6 rfl rfl (by decide) tf_X6_28 rfl dX6_tells_269 ?_
                  refine r_iload (pc := 272) X 2 dX6_tells_272 rfl ?_
                  refine r_iload (pc := 274) X 3 dX6_tells_274 rfl ?_
                  refine r_iconst (pc := 276) X 0 dX6_tells_276 (by decide) ?_
                  refine r_iconst (pc := 277) X 0 dX6_tells_277 (by decide) ?_
                  refine r_callS (pc := 278) (As := [vI q53_6, vI 0, vI 0]) (rest := [vI ((m 18 x1) - 1), .ref (kB K + 42)]) (W' := fun q278_24 => (Zw (kE K) lt b c ms rd m P)) (rv := fun q278_24 => some (vI q278_24)) X dX6_tells_278 rfl (fun a ha => c_X6_node N lt b c ms rd m P q53_6 0 0 K.1.2.1 K.2.2.1.1 (kE K) a ha) (fun a => Zw_d _ _ _ _ _ _ _ _) gd_X6_98 rfl (n := 3) (by decide) rfl (by decide) (by simp [z_cat, z_catR, z_catI, z_catL]) (fun q278_24 eq278_24 => ?_)
                  show Rn K _ 0 0 _ 281 [(0, .ref (kB K + 35)), (3, vI s0_12), (6, vI ((m 18 x1) - 1)), (7, vI q53_6), (8, vI q60_7), (10, vI s0_85)] [vI q278_24, vI ((m 18 x1) - 1), .ref (kB K + 42)] (Zw (kE K) lt b c ms rd m P)
                  refine r_ckA (fun h25 => ?_)
                  refine r_iast (pc := 281) (f := m 9) (ws' := (Zw (kE K) lt b c ms rd (bS m 9 (aS (m 9) ((m 18 x1) - 1) q278_24)) P)) X 42 h25 zl_3400 rfl rfl dX6_tells_281 ?_
                  refine r_goto (pc := 282) X dX6_tells_282 (tgt := 342) (by decide) ?_
                  exact r_vret (pc := 342) X rfl rfl (by decide) dX6_tells_342
              refine r_icmp_ne (pc := 175) X h8 h11 dX6_tells_175 (tgt := 261) (by decide) (fun h26 => ?_) (fun h26 => ?_)
              · refine r_sub [0, 2, 5, 6, 7, 8] rfl ?_
                exact hj261
              · refine r_iload (pc := 178) X 6 dX6_tells_178 rfl ?_
                refine r_callS (pc := 180) (As := [vI q53_6]) (rest := []) (W' := fun q180_27 => (Zw (kE K) lt b c ms rd m P)) (rv := fun q180_27 => some (vI q180_27)) X dX6_tells_180 rfl (fun a ha => c_X6_parts N lt b c ms rd m P q53_6 K.1.2.1 K.2.2.1.1 (kE K) a ha) (fun a => Zw_d _ _ _ _ _ _ _ _) gd_X6_113 rfl (n := 1) (by decide) rfl (by decide) (Nat.zero_le _) (fun q180_27 eq180_27 => ?_)
                show Rn K _ 0 0 _ 183 [(0, .ref (kB K + 35)), (2, vI x2), (3, vI s0_12), (4, vI (m 9 (Int.tdiv (Int.tdiv x1 2) 40))), (5, vI (m 9 (x2 + (Int.tmod (Int.tdiv x1 2) 40)))), (6, vI ((m 18 x1) - 1)), (7, vI q53_6), (8, vI q60_7), (10, vI s0_85)] [vI q180_27] (Zw (kE K) lt b c ms rd m P)
                refine r_iconst (pc := 183) X 2 dX6_tells_183 (by decide) ?_
                refine r_ck1 (fun h28 => ?_)
                refine r_icmp_ne (pc := 184) X h28 (by decide) dX6_tells_184 (tgt := 261) (by decide) (fun h29 => ?_) (fun h29 => ?_)
                · refine r_sub [0, 2, 5, 6, 7, 8] rfl ?_
                  exact hj261
                · refine r_aload_n (pc := 187) X 0 dX6_tells_187 rfl rfl ?_
                  refine r_iload (pc := 188) X 3 dX6_tells_188 rfl ?_
                  refine r_iconst (pc := 190) X 0 dX6_tells_190 (by decide) ?_
                  refine r_callS (pc := 191) (As := [vI (m 9 (Int.tdiv (Int.tdiv x1 2) 40)), vI 0]) (rest := [.ref (kB K + 35)]) (W' := fun q191_30 => (Zw (kE K) lt b c ms rd m P)) (rv := fun q191_30 => some (vI q191_30)) X dX6_tells_191 rfl (fun a ha => c_X6_partOf N lt b c ms rd m P (m 9 (Int.tdiv (Int.tdiv x1 2) 40)) 0 K.1.2.1 K.2.2.1.1 (kE K) a ha) (fun a => Zw_d _ _ _ _ _ _ _ _) gd_X6_106 rfl (n := 2) (by decide) rfl (by decide) (by simp [z_cat, z_catR, z_catI, z_catL]) (fun q191_30 eq191_30 => ?_)
                  show Rn K _ 0 0 _ 194 [(0, .ref (kB K + 35)), (2, vI x2), (3, vI s0_12), (4, vI (m 9 (Int.tdiv (Int.tdiv x1 2) 40))), (5, vI (m 9 (x2 + (Int.tmod (Int.tdiv x1 2) 40)))), (6, vI ((m 18 x1) - 1)), (7, vI q53_6), (8, vI q60_7), (10, vI s0_85)] [vI q191_30, .ref (kB K + 35)] (Zw (kE K) lt b c ms rd m P)
                  refine r_iload (pc := 194) X 4 dX6_tells_194 rfl ?_
                  refine r_iconst (pc := 196) X 0 dX6_tells_196 (by decide) ?_
                  refine r_callS (pc := 197) (As := [vI (m 9 (x2 + (Int.tmod (Int.tdiv x1 2) 40))), vI 0]) (rest := [vI q191_30, .ref (kB K + 35)]) (W' := fun q197_31 => (Zw (kE K) lt b c ms rd m P)) (rv := fun q197_31 => some (vI q197_31)) X dX6_tells_197 rfl (fun a ha => c_X6_partOf N lt b c ms rd m P (m 9 (x2 + (Int.tmod (Int.tdiv x1 2) 40))) 0 K.1.2.1 K.2.2.1.1 (kE K) a ha) (fun a => Zw_d _ _ _ _ _ _ _ _) gd_X6_106 rfl (n := 2) (by decide) rfl (by decide) (by simp [z_cat, z_catR, z_catI, z_catL]) (fun q197_31 eq197_31 => ?_)
                  show Rn K _ 0 0 _ 200 [(0, .ref (kB K + 35)), (2, vI x2), (3, vI s0_12), (4, vI (m 9 (Int.tdiv (Int.tdiv x1 2) 40))), (5, vI (m 9 (x2 + (Int.tmod (Int.tdiv x1 2) 40)))), (6, vI ((m 18 x1) - 1)), (7, vI q53_6), (8, vI q60_7), (10, vI s0_85)] [vI q197_31, vI q191_30, .ref (kB K + 35)] (Zw (kE K) lt b c ms rd m P)
                  refine r_iload (pc := 200) X 6 dX6_tells_200 rfl ?_
                  refine r_bipush (pc := 202) X 6 dX6_tells_202 (by decide) ?_
                  refine r_jn (J := fun j220 => ∀ (s3_220 : Int), Rn K (Q_X6_tells K lt b c ms rd m P) 0 0 (j220 s3_220) 220 [(0, .ref (kB K + 35)), (2, vI x2), (3, vI s0_12), (4, vI (m 9 (Int.tdiv (Int.tdiv x1 2) 40))), (5, vI (m 9 (x2 + (Int.tmod (Int.tdiv x1 2) 40)))), (6, vI ((m 18 x1) - 1)), (7, vI q53_6)] [vI s3_220, vI q197_31, vI q191_30, .ref (kB K + 35)] (Zw (kE K) lt b c ms rd m P)) ?_ (fun j220 hj220 => ?_)
                  · intro s3_220
                    refine r_iload_n (pc := 220) X 1 dX6_tells_220 rfl rfl ?_
                    refine r_callV (pc := 221) (q0 := 35) (ci := 6) (As := [vI q191_30, vI q197_31, vI s3_220, vI x2]) (rest := []) (W' := fun q221_32 => (Zw (kE K) lt b c ms rd q221_32.2 P)) (rv := fun q221_32 => some (vI q221_32.1)) X dX6_tells_221 rfl (fun a ha => c_X6_pairOf N lt b c ms rd m P q191_30 q197_31 s3_220 x2 K.1.2.1 K.2.2.1.1 (kE K) a ha) (fun a => Zw_d _ _ _ _ _ _ _ _) gd_X6_239 rfl (n := 4) (by decide) rfl (by decide) rfl rfl rfl (Nat.zero_le _) (fun q221_32 eq221_32 => ?_)
                    show Rn K _ 0 0 _ 224 [(0, .ref (kB K + 35)), (2, vI x2), (3, vI s0_12), (4, vI (m 9 (Int.tdiv (Int.tdiv x1 2) 40))), (5, vI (m 9 (x2 + (Int.tmod (Int.tdiv x1 2) 40)))), (6, vI ((m 18 x1) - 1)), (7, vI q53_6)] [vI q221_32.1] (Zw (kE K) lt b c ms rd q221_32.2 P)
                    refine r_istore (pc := 224) (lv' := [(0, .ref (kB K + 35)), (2, vI x2), (3, vI s0_12), (4, vI (m 9 (Int.tdiv (Int.tdiv x1 2) 40))), (5, vI (m 9 (x2 + (Int.tmod (Int.tdiv x1 2) 40)))), (6, vI ((m 18 x1) - 1)), (7, vI q53_6), (11, vI q221_32.1)]) X [1, 2, 3, 4, 5, 6, 7, 0] dX6_tells_224 (by decide) rfl ?_
                    refine r_aload_n (pc := 226) X 0 dX6_tells_226 rfl rfl ?_
                    refine r_get (pc := 227) (v := .ref (kB K + 42)) X 35 9 inX6 rfl rfl (by decide) tf_X6_28 rfl dX6_tells_227 ?_
                    refine r_iload (pc := 230) X 5 dX6_tells_230 rfl ?_
                    refine r_iload (pc := 232) X 6 dX6_tells_232 rfl ?_
                    refine r_iload (pc := 234) X 7 dX6_tells_234 rfl ?_
                    refine r_aload_n (pc := 236) X 0 dX6_tells_236 rfl rfl ?_
                    refine r_iload (pc := 237) X 3 dX6_tells_237 rfl ?_
                    refine r_iconst (pc := 239) X 1 dX6_tells_239 (by decide) ?_
                    refine r_callS (pc := 240) (As := [vI (m 9 (Int.tdiv (Int.tdiv x1 2) 40)), vI 1]) (rest := [.ref (kB K + 35), vI q221_32.1, vI q53_6, vI ((m 18 x1) - 1), .ref (kB K + 42)]) (W' := fun q240_33 => (Zw (kE K) lt b c ms rd q221_32.2 P)) (rv := fun q240_33 => some (vI q240_33)) X dX6_tells_240 rfl (fun a ha => c_X6_partOf N lt b c ms rd q221_32.2 P (m 9 (Int.tdiv (Int.tdiv x1 2) 40)) 1 K.1.2.1 K.2.2.1.1 (kE K) a ha) (fun a => Zw_d _ _ _ _ _ _ _ _) gd_X6_106 rfl (n := 2) (by decide) rfl (by decide) (by simp [z_cat, z_catR, z_catI, z_catL]) (fun q240_33 eq240_33 => ?_)
                    show Rn K _ 0 0 _ 243 [(0, .ref (kB K + 35)), (2, vI x2), (3, vI s0_12), (4, vI (m 9 (Int.tdiv (Int.tdiv x1 2) 40))), (5, vI (m 9 (x2 + (Int.tmod (Int.tdiv x1 2) 40)))), (6, vI ((m 18 x1) - 1)), (7, vI q53_6), (11, vI q221_32.1)] [vI q240_33, .ref (kB K + 35), vI q221_32.1, vI q53_6, vI ((m 18 x1) - 1), .ref (kB K + 42)] (Zw (kE K) lt b c ms rd q221_32.2 P)
                    refine r_iload (pc := 243) X 4 dX6_tells_243 rfl ?_
                    refine r_iconst (pc := 245) X 1 dX6_tells_245 (by decide) ?_
                    refine r_callS (pc := 246) (As := [vI (m 9 (x2 + (Int.tmod (Int.tdiv x1 2) 40))), vI 1]) (rest := [vI q240_33, .ref (kB K + 35), vI q221_32.1, vI q53_6, vI ((m 18 x1) - 1), .ref (kB K + 42)]) (W' := fun q246_34 => (Zw (kE K) lt b c ms rd q221_32.2 P)) (rv := fun q246_34 => some (vI q246_34)) X dX6_tells_246 rfl (fun a ha => c_X6_partOf N lt b c ms rd q221_32.2 P (m 9 (x2 + (Int.tmod (Int.tdiv x1 2) 40))) 1 K.1.2.1 K.2.2.1.1 (kE K) a ha) (fun a => Zw_d _ _ _ _ _ _ _ _) gd_X6_106 rfl (n := 2) (by decide) rfl (by decide) (by simp [z_cat, z_catR, z_catI, z_catL]) (fun q246_34 eq246_34 => ?_)
                    show Rn K _ 0 0 _ 249 [(0, .ref (kB K + 35)), (2, vI x2), (3, vI s0_12), (4, vI (m 9 (Int.tdiv (Int.tdiv x1 2) 40))), (5, vI (m 9 (x2 + (Int.tmod (Int.tdiv x1 2) 40)))), (6, vI ((m 18 x1) - 1)), (7, vI q53_6), (11, vI q221_32.1)] [vI q246_34, vI q240_33, .ref (kB K + 35), vI q221_32.1, vI q53_6, vI ((m 18 x1) - 1), .ref (kB K + 42)] (Zw (kE K) lt b c ms rd q221_32.2 P)
                    refine r_iload_n (pc := 249) X 2 dX6_tells_249 rfl rfl ?_
                    refine r_iload_n (pc := 250) X 1 dX6_tells_250 rfl rfl ?_
                    refine r_callV (pc := 251) (q0 := 35) (ci := 6) (As := [vI q240_33, vI q246_34, vI s0_12, vI x2]) (rest := [vI q221_32.1, vI q53_6, vI ((m 18 x1) - 1), .ref (kB K + 42)]) (W' := fun q251_35 => (Zw (kE K) lt b c ms rd q251_35.2 P)) (rv := fun q251_35 => some (vI q251_35.1)) X dX6_tells_251 rfl (fun a ha => c_X6_pairOf N lt b c ms rd q221_32.2 P q240_33 q246_34 s0_12 x2 K.1.2.1 K.2.2.1.1 (kE K) a ha) (fun a => Zw_d _ _ _ _ _ _ _ _) gd_X6_239 rfl (n := 4) (by decide) rfl (by decide) rfl rfl rfl (by simp [z_cat, z_catR, z_catI, z_catL]) (fun q251_35 eq251_35 => ?_)
                    show Rn K _ 0 0 _ 254 [(0, .ref (kB K + 35)), (2, vI x2), (3, vI s0_12), (4, vI (m 9 (Int.tdiv (Int.tdiv x1 2) 40))), (5, vI (m 9 (x2 + (Int.tmod (Int.tdiv x1 2) 40)))), (6, vI ((m 18 x1) - 1)), (7, vI q53_6), (11, vI q221_32.1)] [vI q251_35.1, vI q221_32.1, vI q53_6, vI ((m 18 x1) - 1), .ref (kB K + 42)] (Zw (kE K) lt b c ms rd q251_35.2 P)
                    refine r_callS (pc := 254) (As := [vI q53_6, vI q221_32.1, vI q251_35.1]) (rest := [vI ((m 18 x1) - 1), .ref (kB K + 42)]) (W' := fun q254_36 => (Zw (kE K) lt b c ms rd q251_35.2 P)) (rv := fun q254_36 => some (vI q254_36)) X dX6_tells_254 rfl (fun a ha => c_X6_node N lt b c ms rd q251_35.2 P q53_6 q221_32.1 q251_35.1 K.1.2.1 K.2.2.1.1 (kE K) a ha) (fun a => Zw_d _ _ _ _ _ _ _ _) gd_X6_98 rfl (n := 3) (by decide) rfl (by decide) (by simp [z_cat, z_catR, z_catI, z_catL]) (fun q254_36 eq254_36 => ?_)
                    show Rn K _ 0 0 _ 257 [(0, .ref (kB K + 35)), (2, vI x2), (3, vI s0_12), (4, vI (m 9 (Int.tdiv (Int.tdiv x1 2) 40))), (5, vI (m 9 (x2 + (Int.tmod (Int.tdiv x1 2) 40)))), (6, vI ((m 18 x1) - 1)), (7, vI q53_6), (11, vI q221_32.1)] [vI q254_36, vI ((m 18 x1) - 1), .ref (kB K + 42)] (Zw (kE K) lt b c ms rd q251_35.2 P)
                    refine r_ckA (fun h37 => ?_)
                    refine r_iast (pc := 257) (f := q251_35.2 9) (ws' := (Zw (kE K) lt b c ms rd (bS q251_35.2 9 (aS (q251_35.2 9) ((m 18 x1) - 1) q254_36)) P)) X 42 h37 zl_3400 rfl rfl dX6_tells_257 ?_
                    refine r_goto (pc := 258) X dX6_tells_258 (tgt := 342) (by decide) ?_
                    exact r_vret (pc := 342) X rfl rfl (by decide) dX6_tells_342
                  refine r_icmp_ne (pc := 204) X h8 (by decide) dX6_tells_204 (tgt := 219) (by decide) (fun h38 => ?_) (fun h38 => ?_)
                  · refine r_iload_n (pc := 219) X 2 dX6_tells_219 rfl rfl ?_
                    refine r_sub [0, 1, 2, 3, 4, 5, 6] rfl ?_
                    exact hj220 s0_12
                  · refine r_iload_n (pc := 207) X 2 dX6_tells_207 rfl rfl ?_
                    refine r_ck1 (fun h39 => ?_)
                    refine r_ifne (pc := 208) X h39 dX6_tells_208 (tgt := 215) (by decide) (fun h40 => ?_) (fun h40 => ?_)
                    · refine r_iconst (pc := 215) X 0 dX6_tells_215 (by decide) ?_
                      refine r_goto (pc := 216) X dX6_tells_216 (tgt := 220) (by decide) ?_
                      refine r_sub [0, 1, 2, 3, 4, 5, 6] rfl ?_
                      exact hj220 0
                    · refine r_iconst (pc := 211) X 1 dX6_tells_211 (by decide) ?_
                      refine r_goto (pc := 212) X dX6_tells_212 (tgt := 220) (by decide) ?_
                      refine r_sub [0, 1, 2, 3, 4, 5, 6] rfl ?_
                      exact hj220 1
            refine r_icmp_ne (pc := 129) X h8 h11 dX6_tells_129 (tgt := 171) (by decide) (fun h41 => ?_) (fun h41 => ?_)
            · refine r_sub [0, 1, 2, 3, 4, 5, 6, 7, 9] rfl ?_
              exact hj171
            · refine r_iload (pc := 132) X 6 dX6_tells_132 rfl ?_
              refine r_iconst (pc := 134) X 4 dX6_tells_134 (by decide) ?_
              refine r_icmp_ne (pc := 135) X h8 (by decide) dX6_tells_135 (tgt := 171) (by decide) (fun h42 => ?_) (fun h42 => ?_)
              · refine r_sub [0, 1, 2, 3, 4, 5, 6, 7, 9] rfl ?_
                exact hj171
              · refine r_aload_n (pc := 138) X 0 dX6_tells_138 rfl rfl ?_
                refine r_get (pc := 139) (v := .ref (kB K + 42)) X 35 9 inX6 rfl rfl (by decide) tf_X6_28 rfl dX6_tells_139 ?_
                refine r_iload (pc := 142) X 5 dX6_tells_142 rfl ?_
                refine r_iconst (pc := 144) X 4 dX6_tells_144 (by decide) ?_
                refine r_aload_n (pc := 145) X 0 dX6_tells_145 rfl rfl ?_
                refine r_iload (pc := 146) X 3 dX6_tells_146 rfl ?_
                refine r_iconst (pc := 148) X 0 dX6_tells_148 (by decide) ?_
                refine r_callS (pc := 149) (As := [vI (m 9 (Int.tdiv (Int.tdiv x1 2) 40)), vI 0]) (rest := [.ref (kB K + 35), vI 4, vI ((m 18 x1) - 1), .ref (kB K + 42)]) (W' := fun q149_43 => (Zw (kE K) lt b c ms rd m P)) (rv := fun q149_43 => some (vI q149_43)) X dX6_tells_149 rfl (fun a ha => c_X6_partOf N lt b c ms rd m P (m 9 (Int.tdiv (Int.tdiv x1 2) 40)) 0 K.1.2.1 K.2.2.1.1 (kE K) a ha) (fun a => Zw_d _ _ _ _ _ _ _ _) gd_X6_106 rfl (n := 2) (by decide) rfl (by decide) (by simp [z_cat, z_catR, z_catI, z_catL]) (fun q149_43 eq149_43 => ?_)
                show Rn K _ 0 0 _ 152 [(0, .ref (kB K + 35)), (2, vI x2), (3, vI s0_12), (4, vI (m 9 (Int.tdiv (Int.tdiv x1 2) 40))), (5, vI (m 9 (x2 + (Int.tmod (Int.tdiv x1 2) 40)))), (6, vI ((m 18 x1) - 1)), (7, vI q53_6), (8, vI q60_7), (9, vI s0_74), (10, vI s0_85)] [vI q149_43, .ref (kB K + 35), vI 4, vI ((m 18 x1) - 1), .ref (kB K + 42)] (Zw (kE K) lt b c ms rd m P)
                refine r_iload (pc := 152) X 4 dX6_tells_152 rfl ?_
                refine r_iconst (pc := 154) X 0 dX6_tells_154 (by decide) ?_
                refine r_callS (pc := 155) (As := [vI (m 9 (x2 + (Int.tmod (Int.tdiv x1 2) 40))), vI 0]) (rest := [vI q149_43, .ref (kB K + 35), vI 4, vI ((m 18 x1) - 1), .ref (kB K + 42)]) (W' := fun q155_44 => (Zw (kE K) lt b c ms rd m P)) (rv := fun q155_44 => some (vI q155_44)) X dX6_tells_155 rfl (fun a ha => c_X6_partOf N lt b c ms rd m P (m 9 (x2 + (Int.tmod (Int.tdiv x1 2) 40))) 0 K.1.2.1 K.2.2.1.1 (kE K) a ha) (fun a => Zw_d _ _ _ _ _ _ _ _) gd_X6_106 rfl (n := 2) (by decide) rfl (by decide) (by simp [z_cat, z_catR, z_catI, z_catL]) (fun q155_44 eq155_44 => ?_)
                show Rn K _ 0 0 _ 158 [(0, .ref (kB K + 35)), (2, vI x2), (3, vI s0_12), (4, vI (m 9 (Int.tdiv (Int.tdiv x1 2) 40))), (5, vI (m 9 (x2 + (Int.tmod (Int.tdiv x1 2) 40)))), (6, vI ((m 18 x1) - 1)), (7, vI q53_6), (8, vI q60_7), (9, vI s0_74), (10, vI s0_85)] [vI q155_44, vI q149_43, .ref (kB K + 35), vI 4, vI ((m 18 x1) - 1), .ref (kB K + 42)] (Zw (kE K) lt b c ms rd m P)
                refine r_iload_n (pc := 158) X 2 dX6_tells_158 rfl rfl ?_
                refine r_iload_n (pc := 159) X 1 dX6_tells_159 rfl rfl ?_
                refine r_callV (pc := 160) (q0 := 35) (ci := 6) (As := [vI q149_43, vI q155_44, vI s0_12, vI x2]) (rest := [vI 4, vI ((m 18 x1) - 1), .ref (kB K + 42)]) (W' := fun q160_45 => (Zw (kE K) lt b c ms rd q160_45.2 P)) (rv := fun q160_45 => some (vI q160_45.1)) X dX6_tells_160 rfl (fun a ha => c_X6_pairOf N lt b c ms rd m P q149_43 q155_44 s0_12 x2 K.1.2.1 K.2.2.1.1 (kE K) a ha) (fun a => Zw_d _ _ _ _ _ _ _ _) gd_X6_239 rfl (n := 4) (by decide) rfl (by decide) rfl rfl rfl (by simp [z_cat, z_catR, z_catI, z_catL]) (fun q160_45 eq160_45 => ?_)
                show Rn K _ 0 0 _ 163 [(0, .ref (kB K + 35)), (2, vI x2), (3, vI s0_12), (4, vI (m 9 (Int.tdiv (Int.tdiv x1 2) 40))), (5, vI (m 9 (x2 + (Int.tmod (Int.tdiv x1 2) 40)))), (6, vI ((m 18 x1) - 1)), (7, vI q53_6), (8, vI q60_7), (9, vI s0_74), (10, vI s0_85)] [vI q160_45.1, vI 4, vI ((m 18 x1) - 1), .ref (kB K + 42)] (Zw (kE K) lt b c ms rd q160_45.2 P)
                refine r_iconst (pc := 163) X 0 dX6_tells_163 (by decide) ?_
                refine r_callS (pc := 164) (As := [vI 4, vI q160_45.1, vI 0]) (rest := [vI ((m 18 x1) - 1), .ref (kB K + 42)]) (W' := fun q164_46 => (Zw (kE K) lt b c ms rd q160_45.2 P)) (rv := fun q164_46 => some (vI q164_46)) X dX6_tells_164 rfl (fun a ha => c_X6_node N lt b c ms rd q160_45.2 P 4 q160_45.1 0 K.1.2.1 K.2.2.1.1 (kE K) a ha) (fun a => Zw_d _ _ _ _ _ _ _ _) gd_X6_98 rfl (n := 3) (by decide) rfl (by decide) (by simp [z_cat, z_catR, z_catI, z_catL]) (fun q164_46 eq164_46 => ?_)
                show Rn K _ 0 0 _ 167 [(0, .ref (kB K + 35)), (2, vI x2), (3, vI s0_12), (4, vI (m 9 (Int.tdiv (Int.tdiv x1 2) 40))), (5, vI (m 9 (x2 + (Int.tmod (Int.tdiv x1 2) 40)))), (6, vI ((m 18 x1) - 1)), (7, vI q53_6), (8, vI q60_7), (9, vI s0_74), (10, vI s0_85)] [vI q164_46, vI ((m 18 x1) - 1), .ref (kB K + 42)] (Zw (kE K) lt b c ms rd q160_45.2 P)
                refine r_ckA (fun h47 => ?_)
                refine r_iast (pc := 167) (f := q160_45.2 9) (ws' := (Zw (kE K) lt b c ms rd (bS q160_45.2 9 (aS (q160_45.2 9) ((m 18 x1) - 1) q164_46)) P)) X 42 h47 zl_3400 rfl rfl dX6_tells_167 ?_
                refine r_goto (pc := 168) X dX6_tells_168 (tgt := 342) (by decide) ?_
                exact r_vret (pc := 342) X rfl rfl (by decide) dX6_tells_342
          · refine r_aload_n (pc := 113) X 0 dX6_tells_113 rfl rfl ?_
            refine r_get (pc := 114) (v := .ref (kB K + 42)) X 35 9 inX6 rfl rfl (by decide) tf_X6_28 rfl dX6_tells_114 ?_
            refine r_iload (pc := 117) X 5 dX6_tells_117 rfl ?_
            refine r_iload (pc := 119) X 3 dX6_tells_119 rfl ?_
            refine r_ckA (fun h48 => ?_)
            refine r_iast (pc := 121) (f := m 9) (ws' := (Zw (kE K) lt b c ms rd (bS m 9 (aS (m 9) ((m 18 x1) - 1) (m 9 (Int.tdiv (Int.tdiv x1 2) 40)))) P)) X 42 h48 zl_3400 rfl rfl dX6_tells_121 ?_
            refine r_goto (pc := 122) X dX6_tells_122 (tgt := 342) (by decide) ?_
            exact r_vret (pc := 342) X rfl rfl (by decide) dX6_tells_342
        · refine r_aload_n (pc := 94) X 0 dX6_tells_94 rfl rfl ?_
          refine r_get (pc := 95) (v := .ref (kB K + 42)) X 35 9 inX6 rfl rfl (by decide) tf_X6_28 rfl dX6_tells_95 ?_
          refine r_iload (pc := 98) X 5 dX6_tells_98 rfl ?_
          refine r_iload (pc := 100) X 4 dX6_tells_100 rfl ?_
          refine r_ckA (fun h49 => ?_)
          refine r_iast (pc := 102) (f := m 9) (ws' := (Zw (kE K) lt b c ms rd (bS m 9 (aS (m 9) ((m 18 x1) - 1) (m 9 (x2 + (Int.tmod (Int.tdiv x1 2) 40))))) P)) X 42 h49 zl_3400 rfl rfl dX6_tells_102 ?_
          refine r_goto (pc := 103) X dX6_tells_103 (tgt := 342) (by decide) ?_
          exact r_vret (pc := 342) X rfl rfl (by decide) dX6_tells_342
      refine r_ck1 (fun h50 => ?_)
      refine r_ifeq (pc := 77) X h50 dX6_tells_77 (tgt := 84) (by decide) (fun h51 => ?_) (fun h51 => ?_)
      · refine r_iconst (pc := 84) X 0 dX6_tells_84 (by decide) ?_
        exact hj85 0
      · refine r_iconst (pc := 80) X 3 dX6_tells_80 (by decide) ?_
        refine r_goto (pc := 81) X dX6_tells_81 (tgt := 85) (by decide) ?_
        exact hj85 3
    refine r_ck1 (fun h52 => ?_)
    refine r_ifeq (pc := 66) X h52 dX6_tells_66 (tgt := 73) (by decide) (fun h53 => ?_) (fun h53 => ?_)
    · refine r_iconst (pc := 73) X 3 dX6_tells_73 (by decide) ?_
      refine r_sub [0, 2, 3, 4, 5, 6, 7, 8] rfl ?_
      exact hj74 3
    · refine r_iconst (pc := 69) X 0 dX6_tells_69 (by decide) ?_
      refine r_goto (pc := 70) X dX6_tells_70 (tgt := 74) (by decide) ?_
      refine r_sub [0, 2, 3, 4, 5, 6, 7, 8] rfl ?_
      exact hj74 0
  refine r_ck1 (fun h54 => ?_)
  refine r_icmp_ne (pc := 4) X h54 (by decide) dX6_tells_4 (tgt := 11) (by decide) (fun h55 => ?_) (fun h55 => ?_)
  · refine r_iconst (pc := 11) X 0 dX6_tells_11 (by decide) ?_
    exact hj12 0
  · refine r_iconst (pc := 7) X 1 dX6_tells_7 (by decide) ?_
    refine r_goto (pc := 8) X dX6_tells_8 (tgt := 12) (by decide) ?_
    exact hj12 1
theorem c_X6_tells (N : Nat) (lt b c ms rd m : Bd) (P : PL) (x1 x2 : Int) (l : Launch) (D : va_G) (E : ET) (a : Bd) (ha : f_X6_tells m x1 x2 = some a) : Ct l yX6_tells (Cond.code yX6_tells cX6_tells 12 none :: lw_g) ({ frames := 3, cells := 0, slots := 0, locals := 70 } : Room) D E [.ref (E.2.2.2 + 35), vI x1, vI x2] (Zw E lt b c ms rd m P) (Zw E lt b c ms rd a P) (none) :=
  ct_of (av := fun E => [.ref (E.2.2.2 + 35), vI x1, vI x2]) (W0 := fun E => Zw E lt b c ms rd m P) (W1 := fun E (a : Bd) => Zw E lt b c ms rd a P) (rw := fun E a => none) (by decide) rfl (fun E => Zw_d E lt b c ms rd m P) (fun E => by simp [lg_sl, z_cat, z_catR, z_catI, z_catL]) (fun K X => r_lv (by simp [lv_args, z_cat, z_catR, z_catI, z_catL]) (t_X6_tells N lt b c ms rd m P x1 x2 K X)) l D E a ha
abbrev Q_X6_bound (K : KT) (lt b c ms rd m : Bd) (P : PL) : (Int × Bd) → State → Prop := Qm K ({ frames := 6, cells := 0, slots := 0, locals := 140 } : Room) (fun a : Int × Bd => Zw (kE K) lt b c ms rd a.2 P) (fun a => some (vI a.1))
set_option maxRecDepth 100000 in
set_option maxHeartbeats 4000000 in
theorem t_X6_bound_L51 (N : Nat) (lt b c ms rd m : Bd) (P : PL) (x1 x4 x5 : Int) (K : KT) (X : Kok K cX6_bound yX6_bound.cls lw_g ({ frames := 6, cells := 0, slots := 0, locals := 140 } : Room) (some .int) 8) (k : Bd → Option (Int × Bd)) (hk : ∀ (m1 : Bd), Rn K (Q_X6_bound K lt b c ms rd m P) 0 0 (k m1) 73 [(0, .ref (kB K + 35)), (1, vI x1), (4, vI x4), (5, vI x5)] [] (Zw (kE K) lt b c ms rd m1 P)) : ∀ (n : Nat) (x6 : Int) (m1 : Bd), Rn K (Q_X6_bound K lt b c ms rd m P) 0 0 (f_X6_bound_L51 x1 x4 x5 k n x6 m1) 51 [(0, .ref (kB K + 35)), (1, vI x1), (4, vI x4), (5, vI x5), (6, vI x6)] [] (Zw (kE K) lt b c ms rd m1 P) := by
  intro n
  induction n with
  | zero =>
    intro x6 m1
    rw [f_X6_bound_L51]
    exact r_none
  | succ n ih =>
    intro x6 m1
    rw [f_X6_bound_L51]
    refine r_iload (pc := 51) X 4 dX6_bound_51 rfl ?_
    refine r_sipush (pc := 53) X 3200 dX6_bound_53 (by decide) ?_
    refine r_ck1 (fun h15 => ?_)
    refine r_icmp_ge (pc := 56) X h15 (by decide) dX6_bound_56 (tgt := 73) (by decide) (fun h16 => ?_) (fun h16 => ?_)
    · refine r_sub [0, 1, 2, 3] rfl ?_
      exact hk m1
    · refine r_aload_n (pc := 59) X 0 dX6_bound_59 rfl rfl ?_
      refine r_get (pc := 60) (v := .ref (kB K + 49)) X 35 18 inX6 rfl rfl (by decide) tf_X6_49 rfl dX6_bound_60 ?_
      refine r_iload (pc := 63) X 4 dX6_bound_63 rfl ?_
      refine r_iconst (pc := 65) X 0 dX6_bound_65 (by decide) ?_
      refine r_ckA (fun h17 => ?_)
      refine r_iast (pc := 66) (f := m1 18) (ws' := (Zw (kE K) lt b c ms rd (bS m1 18 (aS (m1 18) x6 0)) P)) X 49 h17 zl_6400 rfl rfl dX6_bound_66 ?_
      refine r_iinc (pc := 67) (lv' := [(0, .ref (kB K + 35)), (1, vI x1), (4, vI x4), (5, vI x5), (6, vI (x6 + 1))]) X 4 [1, 2, 3, 4, 0] dX6_bound_67 rfl (by decide) rfl ?_
      refine r_goto (pc := 70) X dX6_bound_70 (tgt := 51) (by decide) ?_
      exact ih (x6 + 1) (bS m1 18 (aS (m1 18) x6 0))
set_option maxRecDepth 100000 in
set_option maxHeartbeats 4000000 in
theorem t_X6_bound_L102 (N : Nat) (lt b c ms rd m : Bd) (P : PL) (x4 x5 x6 : Int) (K : KT) (X : Kok K cX6_bound yX6_bound.cls lw_g ({ frames := 6, cells := 0, slots := 0, locals := 140 } : Room) (some .int) 8) (k : Bd → Option (Int × Bd)) (hk : ∀ (m1 : Bd), Rn K (Q_X6_bound K lt b c ms rd m P) 0 0 (k m1) 130 [(0, .ref (kB K + 35)), (4, vI x4), (6, vI x6)] [] (Zw (kE K) lt b c ms rd m1 P)) : ∀ (n : Nat) (x7 : Int) (m1 : Bd), Rn K (Q_X6_bound K lt b c ms rd m P) 0 0 (f_X6_bound_L102 x4 x5 x6 k n x7 m1) 102 [(0, .ref (kB K + 35)), (4, vI x4), (5, vI x5), (6, vI x6), (7, vI x7)] [] (Zw (kE K) lt b c ms rd m1 P) := by
  intro n
  induction n with
  | zero =>
    intro x7 m1
    rw [f_X6_bound_L102]
    exact r_none
  | succ n ih =>
    intro x7 m1
    rw [f_X6_bound_L102]
    refine r_iload (pc := 102) X 4 dX6_bound_102 rfl ?_
    refine r_aload_n (pc := 104) X 0 dX6_bound_104 rfl rfl ?_
    refine r_get (pc := 105) (v := vI (m1 30 0)) X 35 30 inX6 rfl rfl (by decide) tf_X6_156 rfl dX6_bound_105 ?_
    refine r_ck1 (fun h19 => ?_)
    refine r_ck1 (fun h20 => ?_)
    refine r_icmp_ge (pc := 108) X h19 h20 dX6_bound_108 (tgt := 130) (by decide) (fun h21 => ?_) (fun h21 => ?_)
    · refine r_sub [0, 1, 3] rfl ?_
      exact hk m1
    · refine r_aload_n (pc := 111) X 0 dX6_bound_111 rfl rfl ?_
      refine r_aload_n (pc := 112) X 0 dX6_bound_112 rfl rfl ?_
      refine r_get (pc := 113) (v := .ref (kB K + 50)) X 35 19 inX6 rfl rfl (by decide) tf_X6_52 rfl dX6_bound_113 ?_
      refine r_iload (pc := 116) X 4 dX6_bound_116 rfl ?_
      refine r_ckA (fun h22 => ?_)
      refine r_iald (pc := 118) (f := m1 19) X 50 h22 zl_6400 rfl dX6_bound_118 ?_
      refine r_iload (pc := 119) X 2 dX6_bound_119 rfl ?_
      refine r_callV (pc := 121) (q0 := 35) (ci := 6) (As := [vI (m1 19 x7), vI x5]) (rest := []) (W' := fun q121_23 => (Zw (kE K) lt b c ms rd q121_23 P)) (rv := fun q121_23 => none) X dX6_bound_121 rfl (fun a ha => c_X6_tells N lt b c ms rd m1 P (m1 19 x7) x5 K.1.2.1 K.2.2.1.1 (kE K) a ha) (fun a => Zw_d _ _ _ _ _ _ _ _) gd_X6_243 rfl (n := 2) (by decide) rfl (by decide) rfl rfl rfl (Nat.zero_le _) (fun q121_23 eq121_23 => ?_)
      show Rn K _ 0 0 _ 124 [(0, .ref (kB K + 35)), (4, vI x4), (5, vI x5), (6, vI x6), (7, vI x7)] [] (Zw (kE K) lt b c ms rd q121_23 P)
      refine r_iinc (pc := 124) (lv' := [(0, .ref (kB K + 35)), (4, vI x4), (5, vI x5), (6, vI x6), (7, vI (x7 + 1))]) X 4 [1, 2, 3, 4, 0] dX6_bound_124 rfl (by decide) rfl ?_
      refine r_goto (pc := 127) X dX6_bound_127 (tgt := 102) (by decide) ?_
      exact ih (x7 + 1) q121_23
set_option maxRecDepth 100000 in
set_option maxHeartbeats 4000000 in
theorem t_X6_bound (N : Nat) (lt b c ms rd m : Bd) (P : PL) (x1 x2 x3 x4 : Int) (K : KT) (X : Kok K cX6_bound yX6_bound.cls lw_g ({ frames := 6, cells := 0, slots := 0, locals := 140 } : Room) (some .int) 8) : Rn K (Q_X6_bound K lt b c ms rd m P) 0 0 (f_X6_bound N m x1 x2 x3 x4) 0 [(0, .ref (kB K + 35)), (1, vI x1), (2, vI x2), (3, vI x3), (4, vI x4)] [] (Zw (kE K) lt b c ms rd m P) := by
  unfold f_X6_bound
  refine r_iload_n (pc := 0) X 1 dX6_bound_0 rfl rfl ?_
  refine r_iconst (pc := 1) X 0 dX6_bound_1 (by decide) ?_
  refine r_iconst (pc := 2) X 1 dX6_bound_2 (by decide) ?_
  refine r_callS (pc := 3) (As := [vI x1, vI 0, vI 1]) (rest := []) (W' := fun q3_1 => (Zw (kE K) lt b c ms rd m P)) (rv := fun q3_1 => some (vI q3_1)) X dX6_bound_3 rfl (fun a ha => c_X6_in N lt b c ms rd m P x1 0 1 K.1.2.1 K.2.2.1.1 (kE K) a ha) (fun a => Zw_d _ _ _ _ _ _ _ _) gd_X6_86 rfl (n := 3) (by decide) rfl (by decide) (Nat.zero_le _) (fun q3_1 eq3_1 => ?_)
  show Rn K _ 0 0 _ 6 [(0, .ref (kB K + 35)), (1, vI x1), (2, vI x2), (3, vI x3), (4, vI x4)] [vI q3_1] (Zw (kE K) lt b c ms rd m P)
  refine r_jn (J := fun j33 => Rn K (Q_X6_bound K lt b c ms rd m P) 0 0 j33 33 [(0, .ref (kB K + 35))] [] (Zw (kE K) lt b c ms rd m P)) ?_ (fun j33 hj33 => ?_)
  · skip
    refine r_aload_n (pc := 33) X 0 dX6_bound_33 rfl rfl ?_
    refine r_bipush (pc := 34) X (-2) dX6_bound_34 (by decide) ?_
    refine r_callV (pc := 36) (q0 := 35) (ci := 6) (As := [vI (-2)]) (rest := []) (W' := fun q36_2 => (Zw (kE K) lt b c ms rd q36_2.2 P)) (rv := fun q36_2 => some (vI q36_2.1)) X dX6_bound_36 rfl (fun a ha => c_X6_refuses N lt b c ms rd m P (-2) K.1.2.1 K.2.2.1.1 (kE K) a ha) (fun a => Zw_d _ _ _ _ _ _ _ _) gd_X6_138 rfl (n := 1) (by decide) rfl (by decide) rfl rfl rfl (Nat.zero_le _) (fun q36_2 eq36_2 => ?_)
    show Rn K _ 0 0 _ 39 [(0, .ref (kB K + 35))] [vI q36_2.1] (Zw (kE K) lt b c ms rd q36_2.2 P)
    exact r_iret (pc := 39) X rfl rfl (by decide) dX6_bound_39
  refine r_ck1 (fun h3 => ?_)
  refine r_ifeq (pc := 6) X h3 dX6_bound_6 (tgt := 33) (by decide) (fun h4 => ?_) (fun h4 => ?_)
  · refine r_sub [0] rfl ?_
    exact hj33
  · refine r_aload_n (pc := 9) X 0 dX6_bound_9 rfl rfl ?_
    refine r_iload_n (pc := 10) X 2 dX6_bound_10 rfl rfl ?_
    refine r_callV (pc := 11) (q0 := 35) (ci := 6) (As := [vI x2]) (rest := []) (W' := fun q11_5 => (Zw (kE K) lt b c ms rd m P)) (rv := fun q11_5 => some (vI q11_5)) X dX6_bound_11 rfl (fun a ha => c_X6_has N lt b c ms rd m P x2 K.1.2.1 K.2.2.1.1 (kE K) a ha) (fun a => Zw_d _ _ _ _ _ _ _ _) gd_X6_204 rfl (n := 1) (by decide) rfl (by decide) rfl rfl rfl (Nat.zero_le _) (fun q11_5 eq11_5 => ?_)
    show Rn K _ 0 0 _ 14 [(0, .ref (kB K + 35)), (1, vI x1), (2, vI x2), (3, vI x3), (4, vI x4)] [vI q11_5] (Zw (kE K) lt b c ms rd m P)
    refine r_ck1 (fun h6 => ?_)
    refine r_ifeq (pc := 14) X h6 dX6_bound_14 (tgt := 33) (by decide) (fun h7 => ?_) (fun h7 => ?_)
    · refine r_sub [0] rfl ?_
      exact hj33
    · refine r_aload_n (pc := 17) X 0 dX6_bound_17 rfl rfl ?_
      refine r_iload_n (pc := 18) X 3 dX6_bound_18 rfl rfl ?_
      refine r_callV (pc := 19) (q0 := 35) (ci := 6) (As := [vI x3]) (rest := []) (W' := fun q19_8 => (Zw (kE K) lt b c ms rd m P)) (rv := fun q19_8 => some (vI q19_8)) X dX6_bound_19 rfl (fun a ha => c_X6_has N lt b c ms rd m P x3 K.1.2.1 K.2.2.1.1 (kE K) a ha) (fun a => Zw_d _ _ _ _ _ _ _ _) gd_X6_204 rfl (n := 1) (by decide) rfl (by decide) rfl rfl rfl (Nat.zero_le _) (fun q19_8 eq19_8 => ?_)
      show Rn K _ 0 0 _ 22 [(0, .ref (kB K + 35)), (1, vI x1), (2, vI x2), (3, vI x3), (4, vI x4)] [vI q19_8] (Zw (kE K) lt b c ms rd m P)
      refine r_ck1 (fun h9 => ?_)
      refine r_ifeq (pc := 22) X h9 dX6_bound_22 (tgt := 33) (by decide) (fun h10 => ?_) (fun h10 => ?_)
      · refine r_sub [0] rfl ?_
        exact hj33
      · refine r_iload (pc := 25) X 4 dX6_bound_25 rfl ?_
        refine r_callS (pc := 27) (As := [vI x4]) (rest := []) (W' := fun q27_11 => (Zw (kE K) lt b c ms rd m P)) (rv := fun q27_11 => some (vI q27_11)) X dX6_bound_27 rfl (fun a ha => c_X6_isName N lt b c ms rd m P x4 K.1.2.1 K.2.2.1.1 (kE K) a ha) (fun a => Zw_d _ _ _ _ _ _ _ _) gd_X6_90 rfl (n := 1) (by decide) rfl (by decide) (Nat.zero_le _) (fun q27_11 eq27_11 => ?_)
        show Rn K _ 0 0 _ 30 [(0, .ref (kB K + 35)), (1, vI x1), (2, vI x2), (3, vI x3), (4, vI x4)] [vI q27_11] (Zw (kE K) lt b c ms rd m P)
        refine r_ck1 (fun h12 => ?_)
        refine r_ifne (pc := 30) X h12 dX6_bound_30 (tgt := 40) (by decide) (fun h13 => ?_) (fun h13 => ?_)
        · refine r_aload_n (pc := 40) X 0 dX6_bound_40 rfl rfl ?_
          refine r_iload_n (pc := 41) X 2 dX6_bound_41 rfl rfl ?_
          refine r_iload_n (pc := 42) X 3 dX6_bound_42 rfl rfl ?_
          refine r_callV (pc := 43) (q0 := 35) (ci := 6) (As := [vI x2, vI x3]) (rest := []) (W' := fun q43_14 => (Zw (kE K) lt b c ms rd q43_14.2 P)) (rv := fun q43_14 => some (vI q43_14.1)) X dX6_bound_43 rfl (fun a ha => c_X6_both N lt b c ms rd m P x2 x3 K.1.2.1 K.2.2.1.1 (kE K) a ha) (fun a => Zw_d _ _ _ _ _ _ _ _) gd_X6_207 rfl (n := 2) (by decide) rfl (by decide) rfl rfl rfl (Nat.zero_le _) (fun q43_14 eq43_14 => ?_)
          show Rn K _ 0 0 _ 46 [(0, .ref (kB K + 35)), (1, vI x1), (2, vI x2), (3, vI x3), (4, vI x4)] [vI q43_14.1] (Zw (kE K) lt b c ms rd q43_14.2 P)
          refine r_istore (pc := 46) (lv' := [(0, .ref (kB K + 35)), (1, vI x1), (2, vI x2), (3, vI x3), (4, vI x4), (5, vI q43_14.1)]) X [1, 2, 3, 4, 5, 0] dX6_bound_46 (by decide) rfl ?_
          refine r_iconst (pc := 48) X 0 dX6_bound_48 (by decide) ?_
          refine r_istore (pc := 49) (lv' := [(0, .ref (kB K + 35)), (1, vI x1), (2, vI x2), (3, vI x3), (4, vI x4), (5, vI q43_14.1), (6, vI 0)]) X [1, 2, 3, 4, 5, 6, 0] dX6_bound_49 (by decide) rfl ?_
          refine r_sub [0, 1, 4, 5, 6] rfl ?_
          refine t_X6_bound_L51 N lt b c ms rd m P  x1 x4 q43_14.1 K X _ ?_ N 0 q43_14.2
          intro m_51
          refine r_aload_n (pc := 73) X 0 dX6_bound_73 rfl rfl ?_
          refine r_iconst (pc := 74) X 0 dX6_bound_74 (by decide) ?_
          refine r_put (pc := 75) (ws' := (Zw (kE K) lt b c ms rd (bs0 m_51 30 0) P)) X 35 30 inX6 tyX6 tyX6_ok nmX6 rfl rfl (by decide) tf_X6_156 rfl (tyX6_ok 30 (by decide)) rfl rfl (Nat.le_of_ble_eq_true rfl) rfl dX6_bound_75 ?_
          refine r_aload_n (pc := 78) X 0 dX6_bound_78 rfl rfl ?_
          refine r_iconst (pc := 79) X 0 dX6_bound_79 (by decide) ?_
          refine r_iload (pc := 80) X 3 dX6_bound_80 rfl ?_
          refine r_iload_n (pc := 82) X 1 dX6_bound_82 rfl rfl ?_
          refine r_iconst (pc := 83) X 1 dX6_bound_83 (by decide) ?_
          refine r_jn (J := fun j92 => ∀ (s3_92 : Int), Rn K (Q_X6_bound K lt b c ms rd m P) 0 0 (j92 s3_92) 92 [(0, .ref (kB K + 35)), (4, vI x4), (5, vI q43_14.1)] [vI s3_92, vI q43_14.1, vI 0, .ref (kB K + 35)] (Zw (kE K) lt b c ms rd (bs0 m_51 30 0) P)) ?_ (fun j92 hj92 => ?_)
          · intro s3_92
            refine r_iload (pc := 92) X 2 dX6_bound_92 rfl ?_
            refine r_callV (pc := 94) (q0 := 35) (ci := 6) (As := [vI 0, vI q43_14.1, vI s3_92, vI q43_14.1]) (rest := []) (W' := fun q94_18 => (Zw (kE K) lt b c ms rd q94_18.2 P)) (rv := fun q94_18 => some (vI q94_18.1)) X dX6_bound_94 rfl (fun a ha => c_X6_pairOf N lt b c ms rd (bs0 m_51 30 0) P 0 q43_14.1 s3_92 q43_14.1 K.1.2.1 K.2.2.1.1 (kE K) a ha) (fun a => Zw_d _ _ _ _ _ _ _ _) gd_X6_239 rfl (n := 4) (by decide) rfl (by decide) rfl rfl rfl (Nat.zero_le _) (fun q94_18 eq94_18 => ?_)
            show Rn K _ 0 0 _ 97 [(0, .ref (kB K + 35)), (4, vI x4), (5, vI q43_14.1)] [vI q94_18.1] (Zw (kE K) lt b c ms rd q94_18.2 P)
            refine r_istore (pc := 97) (lv' := [(0, .ref (kB K + 35)), (4, vI x4), (5, vI q43_14.1), (6, vI q94_18.1)]) X [1, 2, 3, 0] dX6_bound_97 (by decide) rfl ?_
            refine r_iconst (pc := 99) X 0 dX6_bound_99 (by decide) ?_
            refine r_istore (pc := 100) (lv' := [(0, .ref (kB K + 35)), (4, vI x4), (5, vI q43_14.1), (6, vI q94_18.1), (7, vI 0)]) X [1, 2, 3, 4, 0] dX6_bound_100 (by decide) rfl ?_
            refine t_X6_bound_L102 N lt b c ms rd m P  x4 q43_14.1 q94_18.1 K X _ ?_ N 0 q94_18.2
            intro m_102
            refine r_aload_n (pc := 130) X 0 dX6_bound_130 rfl rfl ?_
            refine r_iload (pc := 131) X 2 dX6_bound_131 rfl ?_
            refine r_iload (pc := 133) X 1 dX6_bound_133 rfl ?_
            refine r_callV (pc := 135) (q0 := 35) (ci := 6) (As := [vI q94_18.1, vI x4]) (rest := []) (W' := fun q135_24 => (Zw (kE K) lt b c ms rd q135_24.2 P)) (rv := fun q135_24 => some (vI q135_24.1)) X dX6_bound_135 rfl (fun a ha => c_X6_gives N lt b c ms rd m_102 P q94_18.1 x4 K.1.2.1 K.2.2.1.1 (kE K) a ha) (fun a => Zw_d _ _ _ _ _ _ _ _) gd_X6_236 rfl (n := 2) (by decide) rfl (by decide) rfl rfl rfl (Nat.zero_le _) (fun q135_24 eq135_24 => ?_)
            show Rn K _ 0 0 _ 138 [(0, .ref (kB K + 35)), (4, vI x4), (6, vI q94_18.1)] [vI q135_24.1] (Zw (kE K) lt b c ms rd q135_24.2 P)
            exact r_iret (pc := 138) X rfl rfl (by decide) dX6_bound_138
          refine r_ck1 (fun h25 => ?_)
          refine r_icmp_ne (pc := 84) X h25 (by decide) dX6_bound_84 (tgt := 91) (by decide) (fun h26 => ?_) (fun h26 => ?_)
          · refine r_iconst (pc := 91) X 0 dX6_bound_91 (by decide) ?_
            refine r_sub [0, 2, 3] rfl ?_
            exact hj92 0
          · refine r_iconst (pc := 87) X 1 dX6_bound_87 (by decide) ?_
            refine r_goto (pc := 88) X dX6_bound_88 (tgt := 92) (by decide) ?_
            refine r_sub [0, 2, 3] rfl ?_
            exact hj92 1
        · refine r_sub [0] rfl ?_
          exact hj33
theorem c_X6_bound (N : Nat) (lt b c ms rd m : Bd) (P : PL) (x1 x2 x3 x4 : Int) (l : Launch) (D : va_G) (E : ET) (a : Int × Bd) (ha : f_X6_bound N m x1 x2 x3 x4 = some a) : Ct l yX6_bound (Cond.code yX6_bound cX6_bound 8 (some .int) :: lw_g) ({ frames := 6, cells := 0, slots := 0, locals := 140 } : Room) D E [.ref (E.2.2.2 + 35), vI x1, vI x2, vI x3, vI x4] (Zw E lt b c ms rd m P) (Zw E lt b c ms rd a.2 P) (some (vI a.1)) :=
  ct_of (av := fun E => [.ref (E.2.2.2 + 35), vI x1, vI x2, vI x3, vI x4]) (W0 := fun E => Zw E lt b c ms rd m P) (W1 := fun E (a : Int × Bd) => Zw E lt b c ms rd a.2 P) (rw := fun E a => some (vI a.1)) (by decide) rfl (fun E => Zw_d E lt b c ms rd m P) (fun E => by simp [lg_sl, z_cat, z_catR, z_catI, z_catL]) (fun K X => r_lv (by simp [lv_args, z_cat, z_catR, z_catI, z_catL]) (t_X6_bound N lt b c ms rd m P x1 x2 x3 x4 K X)) l D E a ha
abbrev Q_X6_swap (K : KT) (lt b c ms rd m : Bd) (P : PL) : (Int × Bd) → State → Prop := Qm K ({ frames := 6, cells := 0, slots := 0, locals := 140 } : Room) (fun a : Int × Bd => Zw (kE K) lt b c ms rd a.2 P) (fun a => some (vI a.1))
set_option maxRecDepth 100000 in
set_option maxHeartbeats 4000000 in
theorem t_X6_swap_L66 (N : Nat) (lt b c ms rd m : Bd) (P : PL) (x4 x5 x6 x7 : Int) (K : KT) (X : Kok K cX6_swap yX6_swap.cls lw_g ({ frames := 6, cells := 0, slots := 0, locals := 140 } : Room) (some .int) 14) (k : Bd → Option (Int × Bd)) (hk : ∀ (m1 : Bd), Rn K (Q_X6_swap K lt b c ms rd m P) 0 0 (k m1) 204 [(0, .ref (kB K + 35)), (4, vI x4), (6, vI x6), (7, vI x7)] [] (Zw (kE K) lt b c ms rd m1 P)) : ∀ (n : Nat) (x8 : Int) (m1 : Bd), Rn K (Q_X6_swap K lt b c ms rd m P) 0 0 (f_X6_swap_L66 x4 x5 x6 x7 k n x8 m1) 66 [(0, .ref (kB K + 35)), (4, vI x4), (5, vI x5), (6, vI x6), (7, vI x7), (8, vI x8)] [] (Zw (kE K) lt b c ms rd m1 P) := by
  intro n
  induction n with
  | zero =>
    intro x8 m1
    rw [f_X6_swap_L66]
    exact r_none
  | succ n ih =>
    intro x8 m1
    rw [f_X6_swap_L66]
    refine r_iload (pc := 66) X 5 dX6_swap_66 rfl ?_
    refine r_iload (pc := 68) X 2 dX6_swap_68 rfl ?_
    refine r_ck1 (fun h17 => ?_)
    refine r_ck1 (fun h18 => ?_)
    refine r_icmp_ge (pc := 70) X h17 h18 dX6_swap_70 (tgt := 204) (by decide) (fun h19 => ?_) (fun h19 => ?_)
    · refine r_sub [0, 1, 3, 4] rfl ?_
      exact hk m1
    · refine r_aload_n (pc := 73) X 0 dX6_swap_73 rfl rfl ?_
      refine r_get (pc := 74) (v := .ref (kB K + 42)) X 35 9 inX6 rfl rfl (by decide) tf_X6_28 rfl dX6_swap_74 ?_
      refine r_iload (pc := 77) X 5 dX6_swap_77 rfl ?_
      refine r_ckA (fun h20 => ?_)
      refine r_iald (pc := 79) (f := m1 9) X 42 h20 zl_3400 rfl dX6_swap_79 ?_
      refine r_istore (pc := 80) (lv' := [(0, .ref (kB K + 35)), (4, vI x4), (5, vI x5), (6, vI x6), (7, vI x7), (8, vI x8), (9, vI (m1 9 x8))]) X [1, 2, 3, 4, 5, 6, 0] dX6_swap_80 (by decide) rfl ?_
      refine r_iload (pc := 82) X 6 dX6_swap_82 rfl ?_
      refine r_iconst (pc := 84) X 0 dX6_swap_84 (by decide) ?_
      refine r_callS (pc := 85) (As := [vI (m1 9 x8), vI 0]) (rest := []) (W' := fun q85_21 => (Zw (kE K) lt b c ms rd m1 P)) (rv := fun q85_21 => some (vI q85_21)) X dX6_swap_85 rfl (fun a ha => c_X6_partOf N lt b c ms rd m1 P (m1 9 x8) 0 K.1.2.1 K.2.2.1.1 (kE K) a ha) (fun a => Zw_d _ _ _ _ _ _ _ _) gd_X6_106 rfl (n := 2) (by decide) rfl (by decide) (Nat.zero_le _) (fun q85_21 eq85_21 => ?_)
      show Rn K _ 0 0 _ 88 [(0, .ref (kB K + 35)), (4, vI x4), (5, vI x5), (6, vI x6), (7, vI x7), (8, vI x8), (9, vI (m1 9 x8))] [vI q85_21] (Zw (kE K) lt b c ms rd m1 P)
      refine r_istore (pc := 88) (lv' := [(0, .ref (kB K + 35)), (4, vI x4), (5, vI x5), (6, vI x6), (7, vI x7), (8, vI x8), (9, vI (m1 9 x8)), (10, vI q85_21)]) X [1, 2, 3, 4, 5, 6, 7, 0] dX6_swap_88 (by decide) rfl ?_
      refine r_iload (pc := 90) X 6 dX6_swap_90 rfl ?_
      refine r_iconst (pc := 92) X 1 dX6_swap_92 (by decide) ?_
      refine r_callS (pc := 93) (As := [vI (m1 9 x8), vI 1]) (rest := []) (W' := fun q93_22 => (Zw (kE K) lt b c ms rd m1 P)) (rv := fun q93_22 => some (vI q93_22)) X dX6_swap_93 rfl (fun a ha => c_X6_partOf N lt b c ms rd m1 P (m1 9 x8) 1 K.1.2.1 K.2.2.1.1 (kE K) a ha) (fun a => Zw_d _ _ _ _ _ _ _ _) gd_X6_106 rfl (n := 2) (by decide) rfl (by decide) (Nat.zero_le _) (fun q93_22 eq93_22 => ?_)
      show Rn K _ 0 0 _ 96 [(0, .ref (kB K + 35)), (4, vI x4), (5, vI x5), (6, vI x6), (7, vI x7), (8, vI x8), (9, vI (m1 9 x8)), (10, vI q85_21)] [vI q93_22] (Zw (kE K) lt b c ms rd m1 P)
      refine r_istore (pc := 96) (lv' := [(0, .ref (kB K + 35)), (4, vI x4), (5, vI x5), (6, vI x6), (7, vI x7), (8, vI x8), (9, vI (m1 9 x8)), (10, vI q85_21), (11, vI q93_22)]) X [1, 2, 3, 4, 5, 6, 7, 8, 0] dX6_swap_96 (by decide) rfl ?_
      refine r_iload (pc := 98) X 6 dX6_swap_98 rfl ?_
      refine r_callS (pc := 100) (As := [vI (m1 9 x8)]) (rest := []) (W' := fun q100_23 => (Zw (kE K) lt b c ms rd m1 P)) (rv := fun q100_23 => some (vI q100_23)) X dX6_swap_100 rfl (fun a ha => c_X6_headOf N lt b c ms rd m1 P (m1 9 x8) K.1.2.1 K.2.2.1.1 (kE K) a ha) (fun a => Zw_d _ _ _ _ _ _ _ _) gd_X6_102 rfl (n := 1) (by decide) rfl (by decide) (Nat.zero_le _) (fun q100_23 eq100_23 => ?_)
      show Rn K _ 0 0 _ 103 [(0, .ref (kB K + 35)), (4, vI x4), (5, vI x5), (6, vI x6), (7, vI x7), (8, vI x8), (9, vI (m1 9 x8)), (10, vI q85_21), (11, vI q93_22)] [vI q100_23] (Zw (kE K) lt b c ms rd m1 P)
      refine r_callS (pc := 103) (As := [vI q100_23]) (rest := []) (W' := fun q103_24 => (Zw (kE K) lt b c ms rd m1 P)) (rv := fun q103_24 => some (vI q103_24)) X dX6_swap_103 rfl (fun a ha => c_X6_parts N lt b c ms rd m1 P q100_23 K.1.2.1 K.2.2.1.1 (kE K) a ha) (fun a => Zw_d _ _ _ _ _ _ _ _) gd_X6_113 rfl (n := 1) (by decide) rfl (by decide) (Nat.zero_le _) (fun q103_24 eq103_24 => ?_)
      show Rn K _ 0 0 _ 106 [(0, .ref (kB K + 35)), (4, vI x4), (5, vI x5), (6, vI x6), (7, vI x7), (8, vI x8), (9, vI (m1 9 x8)), (10, vI q85_21), (11, vI q93_22)] [vI q103_24] (Zw (kE K) lt b c ms rd m1 P)
      refine r_jn (J := fun j114 => ∀ (s0_114 : Int), Rn K (Q_X6_swap K lt b c ms rd m P) 0 0 (j114 s0_114) 114 [(0, .ref (kB K + 35)), (4, vI x4), (5, vI x5), (6, vI x6), (7, vI x7), (8, vI x8), (9, vI (m1 9 x8)), (10, vI q85_21), (11, vI q93_22)] [vI s0_114] (Zw (kE K) lt b c ms rd m1 P)) ?_ (fun j114 hj114 => ?_)
      · intro s0_114
        refine r_istore (pc := 114) (lv' := [(0, .ref (kB K + 35)), (4, vI x4), (5, vI x5), (6, vI x6), (7, vI x7), (8, vI x8), (9, vI (m1 9 x8)), (10, vI q85_21), (11, vI q93_22), (12, vI s0_114)]) X [1, 2, 3, 4, 5, 6, 7, 8, 9, 0] dX6_swap_114 (by decide) rfl ?_
        refine r_iload (pc := 116) X 6 dX6_swap_116 rfl ?_
        refine r_callS (pc := 118) (As := [vI (m1 9 x8)]) (rest := []) (W' := fun q118_25 => (Zw (kE K) lt b c ms rd m1 P)) (rv := fun q118_25 => some (vI q118_25)) X dX6_swap_118 rfl (fun a ha => c_X6_headOf N lt b c ms rd m1 P (m1 9 x8) K.1.2.1 K.2.2.1.1 (kE K) a ha) (fun a => Zw_d _ _ _ _ _ _ _ _) gd_X6_102 rfl (n := 1) (by decide) rfl (by decide) (Nat.zero_le _) (fun q118_25 eq118_25 => ?_)
        show Rn K _ 0 0 _ 121 [(0, .ref (kB K + 35)), (4, vI x4), (5, vI x5), (6, vI x6), (7, vI x7), (8, vI x8), (9, vI (m1 9 x8)), (10, vI q85_21), (11, vI q93_22), (12, vI s0_114)] [vI q118_25] (Zw (kE K) lt b c ms rd m1 P)
        refine r_callS (pc := 121) (As := [vI q118_25]) (rest := []) (W' := fun q121_26 => (Zw (kE K) lt b c ms rd m1 P)) (rv := fun q121_26 => some (vI q121_26)) X dX6_swap_121 rfl (fun a ha => c_X6_parts N lt b c ms rd m1 P q118_25 K.1.2.1 K.2.2.1.1 (kE K) a ha) (fun a => Zw_d _ _ _ _ _ _ _ _) gd_X6_113 rfl (n := 1) (by decide) rfl (by decide) (Nat.zero_le _) (fun q121_26 eq121_26 => ?_)
        show Rn K _ 0 0 _ 124 [(0, .ref (kB K + 35)), (4, vI x4), (5, vI x5), (6, vI x6), (7, vI x7), (8, vI x8), (9, vI (m1 9 x8)), (10, vI q85_21), (11, vI q93_22), (12, vI s0_114)] [vI q121_26] (Zw (kE K) lt b c ms rd m1 P)
        refine r_iconst (pc := 124) X 1 dX6_swap_124 (by decide) ?_
        refine r_jn (J := fun j133 => ∀ (s0_133 : Int), Rn K (Q_X6_swap K lt b c ms rd m P) 0 0 (j133 s0_133) 133 [(0, .ref (kB K + 35)), (4, vI x4), (5, vI x5), (6, vI x6), (7, vI x7), (8, vI x8), (9, vI (m1 9 x8)), (10, vI q85_21), (11, vI q93_22), (12, vI s0_114)] [vI s0_133] (Zw (kE K) lt b c ms rd m1 P)) ?_ (fun j133 hj133 => ?_)
        · intro s0_133
          refine r_istore (pc := 133) (lv' := [(0, .ref (kB K + 35)), (4, vI x4), (5, vI x5), (6, vI x6), (7, vI x7), (8, vI x8), (9, vI (m1 9 x8)), (10, vI q85_21), (11, vI q93_22), (12, vI s0_114), (13, vI s0_133)]) X [1, 2, 3, 4, 5, 6, 7, 8, 9, 10, 0] dX6_swap_133 (by decide) rfl ?_
          refine r_aload_n (pc := 135) X 0 dX6_swap_135 rfl rfl ?_
          refine r_get (pc := 136) (v := .ref (kB K + 42)) X 35 9 inX6 rfl rfl (by decide) tf_X6_28 rfl dX6_swap_136 ?_
          refine r_iload (pc := 139) X 5 dX6_swap_139 rfl ?_
          refine r_iload (pc := 141) X 6 dX6_swap_141 rfl ?_
          refine r_callS (pc := 143) (As := [vI (m1 9 x8)]) (rest := [vI x8, .ref (kB K + 42)]) (W' := fun q143_27 => (Zw (kE K) lt b c ms rd m1 P)) (rv := fun q143_27 => some (vI q143_27)) X dX6_swap_143 rfl (fun a ha => c_X6_headOf N lt b c ms rd m1 P (m1 9 x8) K.1.2.1 K.2.2.1.1 (kE K) a ha) (fun a => Zw_d _ _ _ _ _ _ _ _) gd_X6_102 rfl (n := 1) (by decide) rfl (by decide) (by simp [z_cat, z_catR, z_catI, z_catL]) (fun q143_27 eq143_27 => ?_)
          show Rn K _ 0 0 _ 146 [(0, .ref (kB K + 35)), (4, vI x4), (5, vI x5), (6, vI x6), (7, vI x7), (8, vI x8), (9, vI (m1 9 x8)), (10, vI q85_21), (11, vI q93_22), (12, vI s0_114), (13, vI s0_133)] [vI q143_27, vI x8, .ref (kB K + 42)] (Zw (kE K) lt b c ms rd m1 P)
          refine r_iload (pc := 146) X 9 dX6_swap_146 rfl ?_
          refine r_jn (J := fun j170 => ∀ (s3_170 : Int), Rn K (Q_X6_swap K lt b c ms rd m P) 0 0 (j170 s3_170) 170 [(0, .ref (kB K + 35)), (4, vI x4), (5, vI x5), (6, vI x6), (7, vI x7), (8, vI x8), (11, vI q93_22), (13, vI s0_133)] [vI s3_170, vI q143_27, vI x8, .ref (kB K + 42)] (Zw (kE K) lt b c ms rd m1 P)) ?_ (fun j170 hj170 => ?_)
          · intro s3_170
            refine r_iload (pc := 170) X 7 dX6_swap_170 rfl ?_
            refine r_jn (J := fun j194 => ∀ (s4_194 : Int), Rn K (Q_X6_swap K lt b c ms rd m P) 0 0 (j194 s4_194) 194 [(0, .ref (kB K + 35)), (4, vI x4), (5, vI x5), (6, vI x6), (7, vI x7), (8, vI x8)] [vI s4_194, vI s3_170, vI q143_27, vI x8, .ref (kB K + 42)] (Zw (kE K) lt b c ms rd m1 P)) ?_ (fun j194 hj194 => ?_)
            · intro s4_194
              refine r_callS (pc := 194) (As := [vI q143_27, vI s3_170, vI s4_194]) (rest := [vI x8, .ref (kB K + 42)]) (W' := fun q194_28 => (Zw (kE K) lt b c ms rd m1 P)) (rv := fun q194_28 => some (vI q194_28)) X dX6_swap_194 rfl (fun a ha => c_X6_node N lt b c ms rd m1 P q143_27 s3_170 s4_194 K.1.2.1 K.2.2.1.1 (kE K) a ha) (fun a => Zw_d _ _ _ _ _ _ _ _) gd_X6_98 rfl (n := 3) (by decide) rfl (by decide) (by simp [z_cat, z_catR, z_catI, z_catL]) (fun q194_28 eq194_28 => ?_)
              show Rn K _ 0 0 _ 197 [(0, .ref (kB K + 35)), (4, vI x4), (5, vI x5), (6, vI x6), (7, vI x7), (8, vI x8)] [vI q194_28, vI x8, .ref (kB K + 42)] (Zw (kE K) lt b c ms rd m1 P)
              refine r_iast (pc := 197) (f := m1 9) (ws' := (Zw (kE K) lt b c ms rd (bS m1 9 (aS (m1 9) x8 q194_28)) P)) X 42 h20 zl_3400 rfl rfl dX6_swap_197 ?_
              refine r_iinc (pc := 198) (lv' := [(0, .ref (kB K + 35)), (4, vI x4), (5, vI x5), (6, vI x6), (7, vI x7), (8, vI (x8 + 1))]) X 5 [1, 2, 3, 4, 5, 0] dX6_swap_198 rfl (by decide) rfl ?_
              refine r_goto (pc := 201) X dX6_swap_201 (tgt := 66) (by decide) ?_
              exact ih (x8 + 1) (bS m1 9 (aS (m1 9) x8 q194_28))
            refine r_jn (J := fun j192 => Rn K (Q_X6_swap K lt b c ms rd m P) 0 0 j192 192 [(0, .ref (kB K + 35)), (4, vI x4), (5, vI x5), (6, vI x6), (7, vI x7), (8, vI x8), (11, vI q93_22)] [vI s3_170, vI q143_27, vI x8, .ref (kB K + 42)] (Zw (kE K) lt b c ms rd m1 P)) ?_ (fun j192 hj192 => ?_)
            · skip
              refine r_iload (pc := 192) X 6 dX6_swap_192 rfl ?_
              refine r_sub [0, 1, 2, 3, 4, 5] rfl ?_
              exact hj194 q93_22
            refine r_ck1 (fun h29 => ?_)
            refine r_ifeq (pc := 172) X h29 dX6_swap_172 (tgt := 192) (by decide) (fun h30 => ?_) (fun h30 => ?_)
            · refine r_sub [0, 1, 2, 3, 4, 5, 6] rfl ?_
              exact hj192
            · refine r_aload_n (pc := 175) X 0 dX6_swap_175 rfl rfl ?_
              refine r_get (pc := 176) (v := .ref (kB K + 45)) X 35 13 inX6 rfl rfl (by decide) tf_X6_37 rfl dX6_swap_176 ?_
              refine r_iload (pc := 179) X 6 dX6_swap_179 rfl ?_
              refine r_ckA (fun h31 => ?_)
              refine r_iald (pc := 181) (f := m1 13) X 45 h31 zl_3400 rfl dX6_swap_181 ?_
              refine r_iload (pc := 182) X 3 dX6_swap_182 rfl ?_
              refine r_ck1 (fun h32 => ?_)
              refine r_ck1 (fun h33 => ?_)
              refine r_icmp_ne (pc := 184) X h32 h33 dX6_swap_184 (tgt := 192) (by decide) (fun h34 => ?_) (fun h34 => ?_)
              · refine r_sub [0, 1, 2, 3, 4, 5, 6] rfl ?_
                exact hj192
              · refine r_iload (pc := 187) X 4 dX6_swap_187 rfl ?_
                refine r_goto (pc := 189) X dX6_swap_189 (tgt := 194) (by decide) ?_
                refine r_sub [0, 1, 2, 3, 4, 5] rfl ?_
                exact hj194 x7
          refine r_jn (J := fun j168 => Rn K (Q_X6_swap K lt b c ms rd m P) 0 0 j168 168 [(0, .ref (kB K + 35)), (4, vI x4), (5, vI x5), (6, vI x6), (7, vI x7), (8, vI x8), (10, vI q85_21), (11, vI q93_22), (13, vI s0_133)] [vI q143_27, vI x8, .ref (kB K + 42)] (Zw (kE K) lt b c ms rd m1 P)) ?_ (fun j168 hj168 => ?_)
          · skip
            refine r_iload (pc := 168) X 6 dX6_swap_168 rfl ?_
            refine r_sub [0, 1, 2, 3, 4, 5, 7, 8] rfl ?_
            exact hj170 q85_21
          refine r_ck1 (fun h35 => ?_)
          refine r_ifeq (pc := 148) X h35 dX6_swap_148 (tgt := 168) (by decide) (fun h36 => ?_) (fun h36 => ?_)
          · refine r_sub [0, 1, 2, 3, 4, 5, 7, 8, 10] rfl ?_
            exact hj168
          · refine r_aload_n (pc := 151) X 0 dX6_swap_151 rfl rfl ?_
            refine r_get (pc := 152) (v := .ref (kB K + 45)) X 35 13 inX6 rfl rfl (by decide) tf_X6_37 rfl dX6_swap_152 ?_
            refine r_iload (pc := 155) X 7 dX6_swap_155 rfl ?_
            refine r_ckA (fun h37 => ?_)
            refine r_iald (pc := 157) (f := m1 13) X 45 h37 zl_3400 rfl dX6_swap_157 ?_
            refine r_iload (pc := 158) X 3 dX6_swap_158 rfl ?_
            refine r_ck1 (fun h38 => ?_)
            refine r_ck1 (fun h39 => ?_)
            refine r_icmp_ne (pc := 160) X h38 h39 dX6_swap_160 (tgt := 168) (by decide) (fun h40 => ?_) (fun h40 => ?_)
            · refine r_sub [0, 1, 2, 3, 4, 5, 7, 8, 10] rfl ?_
              exact hj168
            · refine r_iload (pc := 163) X 4 dX6_swap_163 rfl ?_
              refine r_goto (pc := 165) X dX6_swap_165 (tgt := 170) (by decide) ?_
              refine r_sub [0, 1, 2, 3, 4, 5, 8, 10] rfl ?_
              exact hj170 x7
        refine r_ck1 (fun h41 => ?_)
        refine r_icmp_le (pc := 125) X h41 (by decide) dX6_swap_125 (tgt := 132) (by decide) (fun h42 => ?_) (fun h42 => ?_)
        · refine r_iconst (pc := 132) X 0 dX6_swap_132 (by decide) ?_
          exact hj133 0
        · refine r_iconst (pc := 128) X 1 dX6_swap_128 (by decide) ?_
          refine r_goto (pc := 129) X dX6_swap_129 (tgt := 133) (by decide) ?_
          exact hj133 1
      refine r_ck1 (fun h43 => ?_)
      refine r_ifle (pc := 106) X h43 dX6_swap_106 (tgt := 113) (by decide) (fun h44 => ?_) (fun h44 => ?_)
      · refine r_iconst (pc := 113) X 0 dX6_swap_113 (by decide) ?_
        exact hj114 0
      · refine r_iconst (pc := 109) X 1 dX6_swap_109 (by decide) ?_
        refine r_goto (pc := 110) X dX6_swap_110 (tgt := 114) (by decide) ?_
        exact hj114 1
set_option maxRecDepth 100000 in
set_option maxHeartbeats 4000000 in
theorem t_X6_swap (N : Nat) (lt b c ms rd m : Bd) (P : PL) (x1 x2 x3 x4 : Int) (K : KT) (X : Kok K cX6_swap yX6_swap.cls lw_g ({ frames := 6, cells := 0, slots := 0, locals := 140 } : Room) (some .int) 14) : Rn K (Q_X6_swap K lt b c ms rd m P) 0 0 (f_X6_swap N m x1 x2 x3 x4) 0 [(0, .ref (kB K + 35)), (1, vI x1), (2, vI x2), (3, vI x3), (4, vI x4)] [] (Zw (kE K) lt b c ms rd m P) := by
  unfold f_X6_swap
  refine r_aload_n (pc := 0) X 0 dX6_swap_0 rfl rfl ?_
  refine r_iload_n (pc := 1) X 1 dX6_swap_1 rfl rfl ?_
  refine r_callV (pc := 2) (q0 := 35) (ci := 6) (As := [vI x1]) (rest := []) (W' := fun q2_1 => (Zw (kE K) lt b c ms rd m P)) (rv := fun q2_1 => some (vI q2_1)) X dX6_swap_2 rfl (fun a ha => c_X6_has N lt b c ms rd m P x1 K.1.2.1 K.2.2.1.1 (kE K) a ha) (fun a => Zw_d _ _ _ _ _ _ _ _) gd_X6_204 rfl (n := 1) (by decide) rfl (by decide) rfl rfl rfl (Nat.zero_le _) (fun q2_1 eq2_1 => ?_)
  show Rn K _ 0 0 _ 5 [(0, .ref (kB K + 35)), (1, vI x1), (2, vI x2), (3, vI x3), (4, vI x4)] [vI q2_1] (Zw (kE K) lt b c ms rd m P)
  refine r_jn (J := fun j32 => Rn K (Q_X6_swap K lt b c ms rd m P) 0 0 j32 32 [(0, .ref (kB K + 35))] [] (Zw (kE K) lt b c ms rd m P)) ?_ (fun j32 hj32 => ?_)
  · skip
    refine r_aload_n (pc := 32) X 0 dX6_swap_32 rfl rfl ?_
    refine r_bipush (pc := 33) X (-2) dX6_swap_33 (by decide) ?_
    refine r_callV (pc := 35) (q0 := 35) (ci := 6) (As := [vI (-2)]) (rest := []) (W' := fun q35_2 => (Zw (kE K) lt b c ms rd q35_2.2 P)) (rv := fun q35_2 => some (vI q35_2.1)) X dX6_swap_35 rfl (fun a ha => c_X6_refuses N lt b c ms rd m P (-2) K.1.2.1 K.2.2.1.1 (kE K) a ha) (fun a => Zw_d _ _ _ _ _ _ _ _) gd_X6_138 rfl (n := 1) (by decide) rfl (by decide) rfl rfl rfl (Nat.zero_le _) (fun q35_2 eq35_2 => ?_)
    show Rn K _ 0 0 _ 38 [(0, .ref (kB K + 35))] [vI q35_2.1] (Zw (kE K) lt b c ms rd q35_2.2 P)
    exact r_iret (pc := 38) X rfl rfl (by decide) dX6_swap_38
  refine r_ck1 (fun h3 => ?_)
  refine r_ifeq (pc := 5) X h3 dX6_swap_5 (tgt := 32) (by decide) (fun h4 => ?_) (fun h4 => ?_)
  · refine r_sub [0] rfl ?_
    exact hj32
  · refine r_aload_n (pc := 8) X 0 dX6_swap_8 rfl rfl ?_
    refine r_iload_n (pc := 9) X 2 dX6_swap_9 rfl rfl ?_
    refine r_callV (pc := 10) (q0 := 35) (ci := 6) (As := [vI x2]) (rest := []) (W' := fun q10_5 => (Zw (kE K) lt b c ms rd m P)) (rv := fun q10_5 => some (vI q10_5)) X dX6_swap_10 rfl (fun a ha => c_X6_has N lt b c ms rd m P x2 K.1.2.1 K.2.2.1.1 (kE K) a ha) (fun a => Zw_d _ _ _ _ _ _ _ _) gd_X6_204 rfl (n := 1) (by decide) rfl (by decide) rfl rfl rfl (Nat.zero_le _) (fun q10_5 eq10_5 => ?_)
    show Rn K _ 0 0 _ 13 [(0, .ref (kB K + 35)), (1, vI x1), (2, vI x2), (3, vI x3), (4, vI x4)] [vI q10_5] (Zw (kE K) lt b c ms rd m P)
    refine r_ck1 (fun h6 => ?_)
    refine r_ifeq (pc := 13) X h6 dX6_swap_13 (tgt := 32) (by decide) (fun h7 => ?_) (fun h7 => ?_)
    · refine r_sub [0] rfl ?_
      exact hj32
    · refine r_aload_n (pc := 16) X 0 dX6_swap_16 rfl rfl ?_
      refine r_iload_n (pc := 17) X 3 dX6_swap_17 rfl rfl ?_
      refine r_callV (pc := 18) (q0 := 35) (ci := 6) (As := [vI x3]) (rest := []) (W' := fun q18_8 => (Zw (kE K) lt b c ms rd m P)) (rv := fun q18_8 => some (vI q18_8)) X dX6_swap_18 rfl (fun a ha => c_X6_has N lt b c ms rd m P x3 K.1.2.1 K.2.2.1.1 (kE K) a ha) (fun a => Zw_d _ _ _ _ _ _ _ _) gd_X6_204 rfl (n := 1) (by decide) rfl (by decide) rfl rfl rfl (Nat.zero_le _) (fun q18_8 eq18_8 => ?_)
      show Rn K _ 0 0 _ 21 [(0, .ref (kB K + 35)), (1, vI x1), (2, vI x2), (3, vI x3), (4, vI x4)] [vI q18_8] (Zw (kE K) lt b c ms rd m P)
      refine r_ck1 (fun h9 => ?_)
      refine r_ifeq (pc := 21) X h9 dX6_swap_21 (tgt := 32) (by decide) (fun h10 => ?_) (fun h10 => ?_)
      · refine r_sub [0] rfl ?_
        exact hj32
      · refine r_iload (pc := 24) X 4 dX6_swap_24 rfl ?_
        refine r_callS (pc := 26) (As := [vI x4]) (rest := []) (W' := fun q26_11 => (Zw (kE K) lt b c ms rd m P)) (rv := fun q26_11 => some (vI q26_11)) X dX6_swap_26 rfl (fun a ha => c_X6_isName N lt b c ms rd m P x4 K.1.2.1 K.2.2.1.1 (kE K) a ha) (fun a => Zw_d _ _ _ _ _ _ _ _) gd_X6_90 rfl (n := 1) (by decide) rfl (by decide) (Nat.zero_le _) (fun q26_11 eq26_11 => ?_)
        show Rn K _ 0 0 _ 29 [(0, .ref (kB K + 35)), (1, vI x1), (2, vI x2), (3, vI x3), (4, vI x4)] [vI q26_11] (Zw (kE K) lt b c ms rd m P)
        refine r_ck1 (fun h12 => ?_)
        refine r_ifne (pc := 29) X h12 dX6_swap_29 (tgt := 39) (by decide) (fun h13 => ?_) (fun h13 => ?_)
        · refine r_aload_n (pc := 39) X 0 dX6_swap_39 rfl rfl ?_
          refine r_iload_n (pc := 40) X 1 dX6_swap_40 rfl rfl ?_
          refine r_iload_n (pc := 41) X 2 dX6_swap_41 rfl rfl ?_
          refine r_callV (pc := 42) (q0 := 35) (ci := 6) (As := [vI x1, vI x2]) (rest := []) (W' := fun q42_14 => (Zw (kE K) lt b c ms rd q42_14.2 P)) (rv := fun q42_14 => some (vI q42_14.1)) X dX6_swap_42 rfl (fun a ha => c_X6_bothApart N lt b c ms rd m P x1 x2 K.1.2.1 K.2.2.1.1 (kE K) a ha) (fun a => Zw_d _ _ _ _ _ _ _ _) gd_X6_213 rfl (n := 2) (by decide) rfl (by decide) rfl rfl rfl (Nat.zero_le _) (fun q42_14 eq42_14 => ?_)
          show Rn K _ 0 0 _ 45 [(0, .ref (kB K + 35)), (1, vI x1), (2, vI x2), (3, vI x3), (4, vI x4)] [vI q42_14.1] (Zw (kE K) lt b c ms rd q42_14.2 P)
          refine r_istore (pc := 45) (lv' := [(0, .ref (kB K + 35)), (1, vI x1), (2, vI x2), (3, vI x3), (4, vI x4), (5, vI q42_14.1)]) X [1, 2, 3, 4, 5, 0] dX6_swap_45 (by decide) rfl ?_
          refine r_aload_n (pc := 47) X 0 dX6_swap_47 rfl rfl ?_
          refine r_get (pc := 48) (v := .ref (kB K + 45)) X 35 13 inX6 rfl rfl (by decide) tf_X6_37 rfl dX6_swap_48 ?_
          refine r_iload (pc := 51) X 5 dX6_swap_51 rfl ?_
          refine r_ckA (fun h15 => ?_)
          refine r_iald (pc := 53) (f := q42_14.2 13) X 45 h15 zl_3400 rfl dX6_swap_53 ?_
          refine r_istore (pc := 54) (lv' := [(0, .ref (kB K + 35)), (1, vI x1), (2, vI x2), (3, vI x3), (4, vI x4), (5, vI q42_14.1), (6, vI (q42_14.2 13 q42_14.1))]) X [1, 2, 3, 4, 5, 6, 0] dX6_swap_54 (by decide) rfl ?_
          refine r_aload_n (pc := 56) X 0 dX6_swap_56 rfl rfl ?_
          refine r_iload_n (pc := 57) X 3 dX6_swap_57 rfl rfl ?_
          refine r_callV (pc := 58) (q0 := 35) (ci := 6) (As := [vI x3]) (rest := []) (W' := fun q58_16 => (Zw (kE K) lt b c ms rd q58_16.2 P)) (rv := fun q58_16 => some (vI q58_16.1)) X dX6_swap_58 rfl (fun a ha => c_X6_loads N lt b c ms rd q42_14.2 P x3 K.1.2.1 K.2.2.1.1 (kE K) a ha) (fun a => Zw_d _ _ _ _ _ _ _ _) gd_X6_192 rfl (n := 1) (by decide) rfl (by decide) rfl rfl rfl (Nat.zero_le _) (fun q58_16 eq58_16 => ?_)
          show Rn K _ 0 0 _ 61 [(0, .ref (kB K + 35)), (1, vI x1), (2, vI x2), (3, vI x3), (4, vI x4), (5, vI q42_14.1), (6, vI (q42_14.2 13 q42_14.1))] [vI q58_16.1] (Zw (kE K) lt b c ms rd q58_16.2 P)
          refine r_istore (pc := 61) (lv' := [(0, .ref (kB K + 35)), (1, vI x1), (2, vI x2), (3, vI x3), (4, vI x4), (5, vI q42_14.1), (6, vI (q42_14.2 13 q42_14.1)), (7, vI q58_16.1)]) X [1, 2, 3, 4, 5, 6, 7, 0] dX6_swap_61 (by decide) rfl ?_
          refine r_iconst (pc := 63) X 0 dX6_swap_63 (by decide) ?_
          refine r_istore (pc := 64) (lv' := [(0, .ref (kB K + 35)), (1, vI x1), (2, vI x2), (3, vI x3), (4, vI x4), (5, vI q42_14.1), (6, vI (q42_14.2 13 q42_14.1)), (7, vI q58_16.1), (8, vI 0)]) X [1, 2, 3, 4, 5, 6, 7, 8, 0] dX6_swap_64 (by decide) rfl ?_
          refine r_sub [0, 4, 5, 6, 7, 8] rfl ?_
          refine t_X6_swap_L66 N lt b c ms rd m P  x4 q42_14.1 (q42_14.2 13 q42_14.1) q58_16.1 K X _ ?_ N 0 q58_16.2
          intro m_66
          refine r_aload_n (pc := 204) X 0 dX6_swap_204 rfl rfl ?_
          refine r_aload_n (pc := 205) X 0 dX6_swap_205 rfl rfl ?_
          refine r_get (pc := 206) (v := .ref (kB K + 45)) X 35 13 inX6 rfl rfl (by decide) tf_X6_37 rfl dX6_swap_206 ?_
          refine r_iconst (pc := 209) X 0 dX6_swap_209 (by decide) ?_
          refine r_iald (pc := 210) (f := m_66 13) X 45 (by decide) zl_3400 rfl dX6_swap_210 ?_
          refine r_iload (pc := 211) X 2 dX6_swap_211 rfl ?_
          refine r_jn (J := fun j222 => ∀ (s1_222 : Int), Rn K (Q_X6_swap K lt b c ms rd m P) 0 0 (j222 s1_222) 222 [(4, vI x4)] [vI s1_222, .ref (kB K + 35)] (Zw (kE K) lt b c ms rd m_66 P)) ?_ (fun j222 hj222 => ?_)
          · intro s1_222
            refine r_iload (pc := 222) X 0 dX6_swap_222 rfl ?_
            refine r_callV (pc := 224) (q0 := 35) (ci := 6) (As := [vI s1_222, vI x4]) (rest := []) (W' := fun q224_45 => (Zw (kE K) lt b c ms rd q224_45.2 P)) (rv := fun q224_45 => some (vI q224_45.1)) X dX6_swap_224 rfl (fun a ha => c_X6_gives N lt b c ms rd m_66 P s1_222 x4 K.1.2.1 K.2.2.1.1 (kE K) a ha) (fun a => Zw_d _ _ _ _ _ _ _ _) gd_X6_236 rfl (n := 2) (by decide) rfl (by decide) rfl rfl rfl (Nat.zero_le _) (fun q224_45 eq224_45 => ?_)
            show Rn K _ 0 0 _ 227 [(4, vI x4)] [vI q224_45.1] (Zw (kE K) lt b c ms rd q224_45.2 P)
            exact r_iret (pc := 227) X rfl rfl (by decide) dX6_swap_227
          refine r_ck1 (fun h46 => ?_)
          refine r_ck1 (fun h47 => ?_)
          refine r_icmp_ne (pc := 213) X h46 h47 dX6_swap_213 (tgt := 221) (by decide) (fun h48 => ?_) (fun h48 => ?_)
          · refine r_iconst (pc := 221) X 0 dX6_swap_221 (by decide) ?_
            refine r_sub [1] rfl ?_
            exact hj222 0
          · refine r_iload (pc := 216) X 3 dX6_swap_216 rfl ?_
            refine r_goto (pc := 218) X dX6_swap_218 (tgt := 222) (by decide) ?_
            refine r_sub [1] rfl ?_
            exact hj222 q58_16.1
        · refine r_sub [0] rfl ?_
          exact hj32
theorem c_X6_swap (N : Nat) (lt b c ms rd m : Bd) (P : PL) (x1 x2 x3 x4 : Int) (l : Launch) (D : va_G) (E : ET) (a : Int × Bd) (ha : f_X6_swap N m x1 x2 x3 x4 = some a) : Ct l yX6_swap (Cond.code yX6_swap cX6_swap 14 (some .int) :: lw_g) ({ frames := 6, cells := 0, slots := 0, locals := 140 } : Room) D E [.ref (E.2.2.2 + 35), vI x1, vI x2, vI x3, vI x4] (Zw E lt b c ms rd m P) (Zw E lt b c ms rd a.2 P) (some (vI a.1)) :=
  ct_of (av := fun E => [.ref (E.2.2.2 + 35), vI x1, vI x2, vI x3, vI x4]) (W0 := fun E => Zw E lt b c ms rd m P) (W1 := fun E (a : Int × Bd) => Zw E lt b c ms rd a.2 P) (rw := fun E a => some (vI a.1)) (by decide) rfl (fun E => Zw_d E lt b c ms rd m P) (fun E => by simp [lg_sl, z_cat, z_catR, z_catI, z_catL]) (fun K X => r_lv (by simp [lv_args, z_cat, z_catR, z_catI, z_catL]) (t_X6_swap N lt b c ms rd m P x1 x2 x3 x4 K X)) l D E a ha
abbrev Q_X6_cut (K : KT) (lt b c ms rd m : Bd) (P : PL) : (Int × Bd) → State → Prop := Qm K ({ frames := 6, cells := 0, slots := 0, locals := 140 } : Room) (fun a : Int × Bd => Zw (kE K) lt b c ms rd a.2 P) (fun a => some (vI a.1))
set_option maxRecDepth 100000 in
set_option maxHeartbeats 4000000 in
theorem t_X6_cut_L56 (N : Nat) (lt b c ms rd m : Bd) (P : PL) (x1 x2 x3 x4 x5 : Int) (K : KT) (X : Kok K cX6_cut yX6_cut.cls lw_g ({ frames := 6, cells := 0, slots := 0, locals := 140 } : Room) (some .int) 9) (k : Bd → Option (Int × Bd)) (hk : ∀ (m1 : Bd), Rn K (Q_X6_cut K lt b c ms rd m P) 0 0 (k m1) 135 [(0, .ref (kB K + 35)), (1, vI x1), (2, vI x2), (3, vI x3), (4, vI x4), (5, vI x5)] [] (Zw (kE K) lt b c ms rd m1 P)) : ∀ (n : Nat) (x6 : Int) (m1 : Bd), Rn K (Q_X6_cut K lt b c ms rd m P) 0 0 (f_X6_cut_L56 x1 x2 x3 x4 x5 k n x6 m1) 56 [(0, .ref (kB K + 35)), (1, vI x1), (2, vI x2), (3, vI x3), (4, vI x4), (5, vI x5), (6, vI x6)] [] (Zw (kE K) lt b c ms rd m1 P) := by
  intro n
  induction n with
  | zero =>
    intro x6 m1
    rw [f_X6_cut_L56]
    exact r_none
  | succ n ih =>
    intro x6 m1
    rw [f_X6_cut_L56]
    refine r_iload (pc := 56) X 6 dX6_cut_56 rfl ?_
    refine r_iload (pc := 58) X 4 dX6_cut_58 rfl ?_
    refine r_ck1 (fun h14 => ?_)
    refine r_ck1 (fun h15 => ?_)
    refine r_icmp_ge (pc := 60) X h14 h15 dX6_cut_60 (tgt := 135) (by decide) (fun h16 => ?_) (fun h16 => ?_)
    · refine r_sub [0, 1, 2, 3, 4, 5] rfl ?_
      exact hk m1
    · refine r_aload_n (pc := 63) X 0 dX6_cut_63 rfl rfl ?_
      refine r_iload_n (pc := 64) X 1 dX6_cut_64 rfl rfl ?_
      refine r_iload (pc := 65) X 6 dX6_cut_65 rfl ?_
      refine r_callV (pc := 67) (q0 := 35) (ci := 6) (As := [vI x1, vI x6]) (rest := []) (W' := fun q67_17 => (Zw (kE K) lt b c ms rd m1 P)) (rv := fun q67_17 => some (vI q67_17)) X dX6_cut_67 rfl (fun a ha => c_X6_nodeAt N lt b c ms rd m1 P x1 x6 K.1.2.1 K.2.2.1.1 (kE K) a ha) (fun a => Zw_d _ _ _ _ _ _ _ _) gd_X6_216 rfl (n := 2) (by decide) rfl (by decide) rfl rfl rfl (Nat.zero_le _) (fun q67_17 eq67_17 => ?_)
      show Rn K _ 0 0 _ 70 [(0, .ref (kB K + 35)), (1, vI x1), (2, vI x2), (3, vI x3), (4, vI x4), (5, vI x5), (6, vI x6)] [vI q67_17] (Zw (kE K) lt b c ms rd m1 P)
      refine r_istore (pc := 70) (lv' := [(0, .ref (kB K + 35)), (1, vI x1), (2, vI x2), (3, vI x3), (4, vI x4), (5, vI x5), (6, vI x6), (7, vI q67_17)]) X [1, 2, 3, 4, 5, 6, 7, 0] dX6_cut_70 (by decide) rfl ?_
      refine r_aload_n (pc := 72) X 0 dX6_cut_72 rfl rfl ?_
      refine r_get (pc := 73) (v := vI (m1 10 0)) X 35 10 inX6 rfl rfl (by decide) tf_X6_94 rfl dX6_cut_73 ?_
      refine r_iload (pc := 76) X 6 dX6_cut_76 rfl ?_
      refine r_isub (pc := 78) X dX6_cut_78 ?_
      refine r_iload (pc := 79) X 4 dX6_cut_79 rfl ?_
      refine r_isub (pc := 81) X dX6_cut_81 ?_
      refine r_istore (pc := 82) (lv' := [(0, .ref (kB K + 35)), (1, vI x1), (2, vI x2), (3, vI x3), (4, vI x4), (5, vI x5), (6, vI x6), (7, vI q67_17), (8, vI (((m1 10 0) - x6) - x4))]) X [1, 2, 3, 4, 5, 6, 7, 8, 0] dX6_cut_82 (by decide) rfl ?_
      refine r_iload (pc := 84) X 5 dX6_cut_84 rfl ?_
      refine r_iload_n (pc := 86) X 2 dX6_cut_86 rfl rfl ?_
      refine r_ck1 (fun h18 => ?_)
      refine r_ck1 (fun h19 => ?_)
      refine r_icmp_ne (pc := 87) X h18 h19 dX6_cut_87 (tgt := 101) (by decide) (fun h20 => ?_) (fun h20 => ?_)
      · refine r_aload_n (pc := 101) X 0 dX6_cut_101 rfl rfl ?_
        refine r_iload (pc := 102) X 7 dX6_cut_102 rfl ?_
        refine r_callS (pc := 104) (As := [vI q67_17]) (rest := [.ref (kB K + 35)]) (W' := fun q104_21 => (Zw (kE K) lt b c ms rd m1 P)) (rv := fun q104_21 => some (vI q104_21)) X dX6_cut_104 rfl (fun a ha => c_X6_headOf N lt b c ms rd m1 P q67_17 K.1.2.1 K.2.2.1.1 (kE K) a ha) (fun a => Zw_d _ _ _ _ _ _ _ _) gd_X6_102 rfl (n := 1) (by decide) rfl (by decide) (by simp [z_cat, z_catR, z_catI, z_catL]) (fun q104_21 eq104_21 => ?_)
        show Rn K _ 0 0 _ 107 [(0, .ref (kB K + 35)), (1, vI x1), (2, vI x2), (3, vI x3), (4, vI x4), (5, vI x5), (6, vI x6), (7, vI q67_17), (8, vI (((m1 10 0) - x6) - x4))] [vI q104_21, .ref (kB K + 35)] (Zw (kE K) lt b c ms rd m1 P)
        refine r_iload (pc := 107) X 8 dX6_cut_107 rfl ?_
        refine r_iload (pc := 109) X 7 dX6_cut_109 rfl ?_
        refine r_iconst (pc := 111) X 0 dX6_cut_111 (by decide) ?_
        refine r_callS (pc := 112) (As := [vI q67_17, vI 0]) (rest := [vI (((m1 10 0) - x6) - x4), vI q104_21, .ref (kB K + 35)]) (W' := fun q112_22 => (Zw (kE K) lt b c ms rd m1 P)) (rv := fun q112_22 => some (vI q112_22)) X dX6_cut_112 rfl (fun a ha => c_X6_partOf N lt b c ms rd m1 P q67_17 0 K.1.2.1 K.2.2.1.1 (kE K) a ha) (fun a => Zw_d _ _ _ _ _ _ _ _) gd_X6_106 rfl (n := 2) (by decide) rfl (by decide) (by simp [z_cat, z_catR, z_catI, z_catL]) (fun q112_22 eq112_22 => ?_)
        show Rn K _ 0 0 _ 115 [(0, .ref (kB K + 35)), (1, vI x1), (2, vI x2), (3, vI x3), (4, vI x4), (5, vI x5), (6, vI x6), (7, vI q67_17), (8, vI (((m1 10 0) - x6) - x4))] [vI q112_22, vI (((m1 10 0) - x6) - x4), vI q104_21, .ref (kB K + 35)] (Zw (kE K) lt b c ms rd m1 P)
        refine r_iadd (pc := 115) X dX6_cut_115 ?_
        refine r_iload (pc := 116) X 8 dX6_cut_116 rfl ?_
        refine r_iload (pc := 118) X 7 dX6_cut_118 rfl ?_
        refine r_iconst (pc := 120) X 1 dX6_cut_120 (by decide) ?_
        refine r_callS (pc := 121) (As := [vI q67_17, vI 1]) (rest := [vI (((m1 10 0) - x6) - x4), vI ((((m1 10 0) - x6) - x4) + q112_22), vI q104_21, .ref (kB K + 35)]) (W' := fun q121_23 => (Zw (kE K) lt b c ms rd m1 P)) (rv := fun q121_23 => some (vI q121_23)) X dX6_cut_121 rfl (fun a ha => c_X6_partOf N lt b c ms rd m1 P q67_17 1 K.1.2.1 K.2.2.1.1 (kE K) a ha) (fun a => Zw_d _ _ _ _ _ _ _ _) gd_X6_106 rfl (n := 2) (by decide) rfl (by decide) (by simp [z_cat, z_catR, z_catI, z_catL]) (fun q121_23 eq121_23 => ?_)
        show Rn K _ 0 0 _ 124 [(0, .ref (kB K + 35)), (1, vI x1), (2, vI x2), (3, vI x3), (4, vI x4), (5, vI x5), (6, vI x6), (7, vI q67_17), (8, vI (((m1 10 0) - x6) - x4))] [vI q121_23, vI (((m1 10 0) - x6) - x4), vI ((((m1 10 0) - x6) - x4) + q112_22), vI q104_21, .ref (kB K + 35)] (Zw (kE K) lt b c ms rd m1 P)
        refine r_iadd (pc := 124) X dX6_cut_124 ?_
        refine r_callV (pc := 125) (q0 := 35) (ci := 6) (As := [vI q104_21, vI ((((m1 10 0) - x6) - x4) + q112_22), vI ((((m1 10 0) - x6) - x4) + q121_23)]) (rest := []) (W' := fun q125_24 => (Zw (kE K) lt b c ms rd q125_24.2 P)) (rv := fun q125_24 => some (vI q125_24.1)) X dX6_cut_125 rfl (fun a ha => c_X6_adds N lt b c ms rd m1 P q104_21 ((((m1 10 0) - x6) - x4) + q112_22) ((((m1 10 0) - x6) - x4) + q121_23) K.1.2.1 K.2.2.1.1 (kE K) a ha) (fun a => Zw_d _ _ _ _ _ _ _ _) gd_X6_110 rfl (n := 3) (by decide) rfl (by decide) rfl rfl rfl (Nat.zero_le _) (fun q125_24 eq125_24 => ?_)
        show Rn K _ 0 0 _ 128 [(0, .ref (kB K + 35)), (1, vI x1), (2, vI x2), (3, vI x3), (4, vI x4), (5, vI x5), (6, vI x6), (7, vI q67_17), (8, vI (((m1 10 0) - x6) - x4))] [vI q125_24.1] (Zw (kE K) lt b c ms rd q125_24.2 P)
        refine r_pop (pc := 128) X dX6_cut_128 rfl ?_
        refine r_iinc (pc := 129) (lv' := [(0, .ref (kB K + 35)), (1, vI x1), (2, vI x2), (3, vI x3), (4, vI x4), (5, vI x5), (6, vI (x6 + 1)), (7, vI q67_17), (8, vI (((m1 10 0) - x6) - x4))]) X 6 [1, 2, 3, 4, 5, 6, 0, 7, 8] dX6_cut_129 rfl (by decide) rfl ?_
        refine r_goto (pc := 132) X dX6_cut_132 (tgt := 56) (by decide) ?_
        refine r_sub [0, 1, 2, 3, 4, 5, 6] rfl ?_
        exact ih (x6 + 1) q125_24.2
      · refine r_aload_n (pc := 90) X 0 dX6_cut_90 rfl rfl ?_
        refine r_iconst (pc := 91) X 3 dX6_cut_91 (by decide) ?_
        refine r_iconst (pc := 92) X 0 dX6_cut_92 (by decide) ?_
        refine r_iconst (pc := 93) X 0 dX6_cut_93 (by decide) ?_
        refine r_callV (pc := 94) (q0 := 35) (ci := 6) (As := [vI 3, vI 0, vI 0]) (rest := []) (W' := fun q94_25 => (Zw (kE K) lt b c ms rd q94_25.2 P)) (rv := fun q94_25 => some (vI q94_25.1)) X dX6_cut_94 rfl (fun a ha => c_X6_adds N lt b c ms rd m1 P 3 0 0 K.1.2.1 K.2.2.1.1 (kE K) a ha) (fun a => Zw_d _ _ _ _ _ _ _ _) gd_X6_110 rfl (n := 3) (by decide) rfl (by decide) rfl rfl rfl (Nat.zero_le _) (fun q94_25 eq94_25 => ?_)
        show Rn K _ 0 0 _ 97 [(0, .ref (kB K + 35)), (1, vI x1), (2, vI x2), (3, vI x3), (4, vI x4), (5, vI x5), (6, vI x6), (7, vI q67_17), (8, vI (((m1 10 0) - x6) - x4))] [vI q94_25.1] (Zw (kE K) lt b c ms rd q94_25.2 P)
        refine r_pop (pc := 97) X dX6_cut_97 rfl ?_
        refine r_goto (pc := 98) X dX6_cut_98 (tgt := 129) (by decide) ?_
        refine r_iinc (pc := 129) (lv' := [(0, .ref (kB K + 35)), (1, vI x1), (2, vI x2), (3, vI x3), (4, vI x4), (5, vI x5), (6, vI (x6 + 1)), (7, vI q67_17), (8, vI (((m1 10 0) - x6) - x4))]) X 6 [1, 2, 3, 4, 5, 6, 0, 7, 8] dX6_cut_129 rfl (by decide) rfl ?_
        refine r_goto (pc := 132) X dX6_cut_132 (tgt := 56) (by decide) ?_
        refine r_sub [0, 1, 2, 3, 4, 5, 6] rfl ?_
        exact ih (x6 + 1) q94_25.2
set_option maxRecDepth 100000 in
set_option maxHeartbeats 4000000 in
theorem t_X6_cut_L48 (N : Nat) (lt b c ms rd m : Bd) (P : PL) (x1 x2 x3 x4 : Int) (K : KT) (X : Kok K cX6_cut yX6_cut.cls lw_g ({ frames := 6, cells := 0, slots := 0, locals := 140 } : Room) (some .int) 9) (k : Bd → Option (Int × Bd)) (hk : ∀ (m1 : Bd), Rn K (Q_X6_cut K lt b c ms rd m P) 0 0 (k m1) 141 [(0, .ref (kB K + 35)), (3, vI x3), (4, vI x4)] [] (Zw (kE K) lt b c ms rd m1 P)) : ∀ (n : Nat) (x5 : Int) (m1 : Bd), Rn K (Q_X6_cut K lt b c ms rd m P) 0 0 (f_X6_cut_L48 N x1 x2 x3 x4 k n x5 m1) 48 [(0, .ref (kB K + 35)), (1, vI x1), (2, vI x2), (3, vI x3), (4, vI x4), (5, vI x5)] [] (Zw (kE K) lt b c ms rd m1 P) := by
  intro n
  induction n with
  | zero =>
    intro x5 m1
    rw [f_X6_cut_L48]
    exact r_none
  | succ n ih =>
    intro x5 m1
    rw [f_X6_cut_L48]
    refine r_iload (pc := 48) X 5 dX6_cut_48 rfl ?_
    refine r_ck1 (fun h12 => ?_)
    refine r_iflt (pc := 50) X h12 dX6_cut_50 (tgt := 141) (by decide) (fun h13 => ?_) (fun h13 => ?_)
    · refine r_sub [0, 3, 4] rfl ?_
      exact hk m1
    · refine r_iconst (pc := 53) X 0 dX6_cut_53 (by decide) ?_
      refine r_istore (pc := 54) (lv' := [(0, .ref (kB K + 35)), (1, vI x1), (2, vI x2), (3, vI x3), (4, vI x4), (5, vI x5), (6, vI 0)]) X [1, 2, 3, 4, 5, 6, 0] dX6_cut_54 (by decide) rfl ?_
      refine t_X6_cut_L56 N lt b c ms rd m P  x1 x2 x3 x4 x5 K X _ ?_ N 0 m1
      intro m_56
      refine r_iinc (pc := 135) (lv' := [(0, .ref (kB K + 35)), (1, vI x1), (2, vI x2), (3, vI x3), (4, vI x4), (5, vI (x5 + (-1)))]) X 5 [1, 2, 3, 4, 5, 0] dX6_cut_135 rfl (by decide) rfl ?_
      refine r_goto (pc := 138) X dX6_cut_138 (tgt := 48) (by decide) ?_
      exact ih (x5 + (-1)) m_56
set_option maxRecDepth 100000 in
set_option maxHeartbeats 4000000 in
theorem t_X6_cut (N : Nat) (lt b c ms rd m : Bd) (P : PL) (x1 x2 x3 : Int) (K : KT) (X : Kok K cX6_cut yX6_cut.cls lw_g ({ frames := 6, cells := 0, slots := 0, locals := 140 } : Room) (some .int) 9) : Rn K (Q_X6_cut K lt b c ms rd m P) 0 0 (f_X6_cut N m x1 x2 x3) 0 [(0, .ref (kB K + 35)), (1, vI x1), (2, vI x2), (3, vI x3)] [] (Zw (kE K) lt b c ms rd m P) := by
  unfold f_X6_cut
  refine r_aload_n (pc := 0) X 0 dX6_cut_0 rfl rfl ?_
  refine r_iload_n (pc := 1) X 1 dX6_cut_1 rfl rfl ?_
  refine r_callV (pc := 2) (q0 := 35) (ci := 6) (As := [vI x1]) (rest := []) (W' := fun q2_1 => (Zw (kE K) lt b c ms rd m P)) (rv := fun q2_1 => some (vI q2_1)) X dX6_cut_2 rfl (fun a ha => c_X6_has N lt b c ms rd m P x1 K.1.2.1 K.2.2.1.1 (kE K) a ha) (fun a => Zw_d _ _ _ _ _ _ _ _) gd_X6_204 rfl (n := 1) (by decide) rfl (by decide) rfl rfl rfl (Nat.zero_le _) (fun q2_1 eq2_1 => ?_)
  show Rn K _ 0 0 _ 5 [(0, .ref (kB K + 35)), (1, vI x1), (2, vI x2), (3, vI x3)] [vI q2_1] (Zw (kE K) lt b c ms rd m P)
  refine r_jn (J := fun j25 => Rn K (Q_X6_cut K lt b c ms rd m P) 0 0 j25 25 [(0, .ref (kB K + 35))] [] (Zw (kE K) lt b c ms rd m P)) ?_ (fun j25 hj25 => ?_)
  · skip
    refine r_aload_n (pc := 25) X 0 dX6_cut_25 rfl rfl ?_
    refine r_bipush (pc := 26) X (-2) dX6_cut_26 (by decide) ?_
    refine r_callV (pc := 28) (q0 := 35) (ci := 6) (As := [vI (-2)]) (rest := []) (W' := fun q28_2 => (Zw (kE K) lt b c ms rd q28_2.2 P)) (rv := fun q28_2 => some (vI q28_2.1)) X dX6_cut_28 rfl (fun a ha => c_X6_refuses N lt b c ms rd m P (-2) K.1.2.1 K.2.2.1.1 (kE K) a ha) (fun a => Zw_d _ _ _ _ _ _ _ _) gd_X6_138 rfl (n := 1) (by decide) rfl (by decide) rfl rfl rfl (Nat.zero_le _) (fun q28_2 eq28_2 => ?_)
    show Rn K _ 0 0 _ 31 [(0, .ref (kB K + 35))] [vI q28_2.1] (Zw (kE K) lt b c ms rd q28_2.2 P)
    exact r_iret (pc := 31) X rfl rfl (by decide) dX6_cut_31
  refine r_ck1 (fun h3 => ?_)
  refine r_ifeq (pc := 5) X h3 dX6_cut_5 (tgt := 25) (by decide) (fun h4 => ?_) (fun h4 => ?_)
  · refine r_sub [0] rfl ?_
    exact hj25
  · refine r_iload_n (pc := 8) X 2 dX6_cut_8 rfl rfl ?_
    refine r_iconst (pc := 9) X 0 dX6_cut_9 (by decide) ?_
    refine r_bipush (pc := 10) X 9 dX6_cut_10 (by decide) ?_
    refine r_callS (pc := 12) (As := [vI x2, vI 0, vI 9]) (rest := []) (W' := fun q12_5 => (Zw (kE K) lt b c ms rd m P)) (rv := fun q12_5 => some (vI q12_5)) X dX6_cut_12 rfl (fun a ha => c_X6_in N lt b c ms rd m P x2 0 9 K.1.2.1 K.2.2.1.1 (kE K) a ha) (fun a => Zw_d _ _ _ _ _ _ _ _) gd_X6_86 rfl (n := 3) (by decide) rfl (by decide) (Nat.zero_le _) (fun q12_5 eq12_5 => ?_)
    show Rn K _ 0 0 _ 15 [(0, .ref (kB K + 35)), (1, vI x1), (2, vI x2), (3, vI x3)] [vI q12_5] (Zw (kE K) lt b c ms rd m P)
    refine r_ck1 (fun h6 => ?_)
    refine r_ifeq (pc := 15) X h6 dX6_cut_15 (tgt := 25) (by decide) (fun h7 => ?_) (fun h7 => ?_)
    · refine r_sub [0] rfl ?_
      exact hj25
    · refine r_iload_n (pc := 18) X 3 dX6_cut_18 rfl rfl ?_
      refine r_callS (pc := 19) (As := [vI x3]) (rest := []) (W' := fun q19_8 => (Zw (kE K) lt b c ms rd m P)) (rv := fun q19_8 => some (vI q19_8)) X dX6_cut_19 rfl (fun a ha => c_X6_isName N lt b c ms rd m P x3 K.1.2.1 K.2.2.1.1 (kE K) a ha) (fun a => Zw_d _ _ _ _ _ _ _ _) gd_X6_90 rfl (n := 1) (by decide) rfl (by decide) (Nat.zero_le _) (fun q19_8 eq19_8 => ?_)
      show Rn K _ 0 0 _ 22 [(0, .ref (kB K + 35)), (1, vI x1), (2, vI x2), (3, vI x3)] [vI q19_8] (Zw (kE K) lt b c ms rd m P)
      refine r_ck1 (fun h9 => ?_)
      refine r_ifne (pc := 22) X h9 dX6_cut_22 (tgt := 32) (by decide) (fun h10 => ?_) (fun h10 => ?_)
      · refine r_aload_n (pc := 32) X 0 dX6_cut_32 rfl rfl ?_
        refine r_get (pc := 33) (v := .ref (kB K + 36)) X 35 0 inX6 rfl rfl (by decide) tf_X6_7 rfl dX6_cut_33 ?_
        refine r_iload_n (pc := 36) X 1 dX6_cut_36 rfl rfl ?_
        refine r_ckA (fun h11 => ?_)
        refine r_iald (pc := 37) (f := m 0) X 36 h11 zl_8 rfl dX6_cut_37 ?_
        refine r_istore (pc := 38) (lv' := [(0, .ref (kB K + 35)), (1, vI x1), (2, vI x2), (3, vI x3), (4, vI (m 0 x1))]) X [1, 2, 3, 4, 0] dX6_cut_38 (by decide) rfl ?_
        refine r_aload_n (pc := 40) X 0 dX6_cut_40 rfl rfl ?_
        refine r_iconst (pc := 41) X 0 dX6_cut_41 (by decide) ?_
        refine r_put (pc := 42) (ws' := (Zw (kE K) lt b c ms rd (bs0 m 10 0) P)) X 35 10 inX6 tyX6 tyX6_ok nmX6 rfl rfl (by decide) tf_X6_94 rfl (tyX6_ok 10 (by decide)) rfl rfl (Nat.le_of_ble_eq_true rfl) rfl dX6_cut_42 ?_
        refine r_iload_n (pc := 45) X 2 dX6_cut_45 rfl rfl ?_
        refine r_istore (pc := 46) (lv' := [(0, .ref (kB K + 35)), (1, vI x1), (2, vI x2), (3, vI x3), (4, vI (m 0 x1)), (5, vI x2)]) X [1, 2, 3, 4, 5, 0] dX6_cut_46 (by decide) rfl ?_
        refine t_X6_cut_L48 N lt b c ms rd m P  x1 x2 x3 (m 0 x1) K X _ ?_ N x2 (bs0 m 10 0)
        intro m_48
        refine r_aload_n (pc := 141) X 0 dX6_cut_141 rfl rfl ?_
        refine r_aload_n (pc := 142) X 0 dX6_cut_142 rfl rfl ?_
        refine r_get (pc := 143) (v := vI (m_48 10 0)) X 35 10 inX6 rfl rfl (by decide) tf_X6_94 rfl dX6_cut_143 ?_
        refine r_iload (pc := 146) X 2 dX6_cut_146 rfl ?_
        refine r_isub (pc := 148) X dX6_cut_148 ?_
        refine r_iload_n (pc := 149) X 1 dX6_cut_149 rfl rfl ?_
        refine r_callV (pc := 150) (q0 := 35) (ci := 6) (As := [vI ((m_48 10 0) - (m 0 x1)), vI x3]) (rest := []) (W' := fun q150_26 => (Zw (kE K) lt b c ms rd q150_26.2 P)) (rv := fun q150_26 => some (vI q150_26.1)) X dX6_cut_150 rfl (fun a ha => c_X6_gives N lt b c ms rd m_48 P ((m_48 10 0) - (m 0 x1)) x3 K.1.2.1 K.2.2.1.1 (kE K) a ha) (fun a => Zw_d _ _ _ _ _ _ _ _) gd_X6_236 rfl (n := 2) (by decide) rfl (by decide) rfl rfl rfl (Nat.zero_le _) (fun q150_26 eq150_26 => ?_)
        show Rn K _ 0 0 _ 153 [(0, .ref (kB K + 35)), (3, vI x3), (4, vI (m 0 x1))] [vI q150_26.1] (Zw (kE K) lt b c ms rd q150_26.2 P)
        exact r_iret (pc := 153) X rfl rfl (by decide) dX6_cut_153
      · refine r_sub [0] rfl ?_
        exact hj25
theorem c_X6_cut (N : Nat) (lt b c ms rd m : Bd) (P : PL) (x1 x2 x3 : Int) (l : Launch) (D : va_G) (E : ET) (a : Int × Bd) (ha : f_X6_cut N m x1 x2 x3 = some a) : Ct l yX6_cut (Cond.code yX6_cut cX6_cut 9 (some .int) :: lw_g) ({ frames := 6, cells := 0, slots := 0, locals := 140 } : Room) D E [.ref (E.2.2.2 + 35), vI x1, vI x2, vI x3] (Zw E lt b c ms rd m P) (Zw E lt b c ms rd a.2 P) (some (vI a.1)) :=
  ct_of (av := fun E => [.ref (E.2.2.2 + 35), vI x1, vI x2, vI x3]) (W0 := fun E => Zw E lt b c ms rd m P) (W1 := fun E (a : Int × Bd) => Zw E lt b c ms rd a.2 P) (rw := fun E a => some (vI a.1)) (by decide) rfl (fun E => Zw_d E lt b c ms rd m P) (fun E => by simp [lg_sl, z_cat, z_catR, z_catI, z_catL]) (fun K X => r_lv (by simp [lv_args, z_cat, z_catR, z_catI, z_catL]) (t_X6_cut N lt b c ms rd m P x1 x2 x3 K X)) l D E a ha
abbrev Q_X6_turn (K : KT) (lt b c ms rd m : Bd) (P : PL) : (Int × Bd) → State → Prop := Qm K ({ frames := 6, cells := 0, slots := 0, locals := 140 } : Room) (fun a : Int × Bd => Zw (kE K) lt b c ms rd a.2 P) (fun a => some (vI a.1))
set_option maxRecDepth 100000 in
set_option maxHeartbeats 4000000 in
theorem t_X6_turn_L47 (N : Nat) (lt b c ms rd m : Bd) (P : PL) (x2 x3 x4 : Int) (K : KT) (X : Kok K cX6_turn yX6_turn.cls lw_g ({ frames := 6, cells := 0, slots := 0, locals := 140 } : Room) (some .int) 7) (k : Bd → Option (Int × Bd)) (hk : ∀ (m1 : Bd), Rn K (Q_X6_turn K lt b c ms rd m P) 0 0 (k m1) 108 [(0, .ref (kB K + 35)), (3, vI x3), (4, vI x4)] [] (Zw (kE K) lt b c ms rd m1 P)) : ∀ (n : Nat) (x5 : Int) (m1 : Bd), Rn K (Q_X6_turn K lt b c ms rd m P) 0 0 (f_X6_turn_L47 x2 x3 x4 k n x5 m1) 47 [(0, .ref (kB K + 35)), (2, vI x2), (3, vI x3), (4, vI x4), (5, vI x5)] [] (Zw (kE K) lt b c ms rd m1 P) := by
  intro n
  induction n with
  | zero =>
    intro x5 m1
    rw [f_X6_turn_L47]
    exact r_none
  | succ n ih =>
    intro x5 m1
    rw [f_X6_turn_L47]
    refine r_iload (pc := 47) X 4 dX6_turn_47 rfl ?_
    refine r_aload_n (pc := 49) X 0 dX6_turn_49 rfl rfl ?_
    refine r_get (pc := 50) (v := vI (m1 10 0)) X 35 10 inX6 rfl rfl (by decide) tf_X6_94 rfl dX6_turn_50 ?_
    refine r_ck1 (fun h12 => ?_)
    refine r_ck1 (fun h13 => ?_)
    refine r_icmp_ge (pc := 53) X h12 h13 dX6_turn_53 (tgt := 108) (by decide) (fun h14 => ?_) (fun h14 => ?_)
    · refine r_sub [0, 2, 3] rfl ?_
      exact hk m1
    · refine r_aload_n (pc := 56) X 0 dX6_turn_56 rfl rfl ?_
      refine r_get (pc := 57) (v := .ref (kB K + 42)) X 35 9 inX6 rfl rfl (by decide) tf_X6_28 rfl dX6_turn_57 ?_
      refine r_iload (pc := 60) X 4 dX6_turn_60 rfl ?_
      refine r_ckA (fun h15 => ?_)
      refine r_iald (pc := 62) (f := m1 9) X 42 h15 zl_3400 rfl dX6_turn_62 ?_
      refine r_istore (pc := 63) (lv' := [(0, .ref (kB K + 35)), (2, vI x2), (3, vI x3), (4, vI x4), (5, vI x5), (6, vI (m1 9 x5))]) X [1, 2, 3, 4, 5, 0] dX6_turn_63 (by decide) rfl ?_
      refine r_aload_n (pc := 65) X 0 dX6_turn_65 rfl rfl ?_
      refine r_get (pc := 66) (v := .ref (kB K + 42)) X 35 9 inX6 rfl rfl (by decide) tf_X6_28 rfl dX6_turn_66 ?_
      refine r_iload (pc := 69) X 4 dX6_turn_69 rfl ?_
      refine r_iload (pc := 71) X 5 dX6_turn_71 rfl ?_
      refine r_callS (pc := 73) (As := [vI (m1 9 x5)]) (rest := [vI x5, .ref (kB K + 42)]) (W' := fun q73_16 => (Zw (kE K) lt b c ms rd m1 P)) (rv := fun q73_16 => some (vI q73_16)) X dX6_turn_73 rfl (fun a ha => c_X6_headOf N lt b c ms rd m1 P (m1 9 x5) K.1.2.1 K.2.2.1.1 (kE K) a ha) (fun a => Zw_d _ _ _ _ _ _ _ _) gd_X6_102 rfl (n := 1) (by decide) rfl (by decide) (by simp [z_cat, z_catR, z_catI, z_catL]) (fun q73_16 eq73_16 => ?_)
      show Rn K _ 0 0 _ 76 [(0, .ref (kB K + 35)), (2, vI x2), (3, vI x3), (4, vI x4), (5, vI x5), (6, vI (m1 9 x5))] [vI q73_16, vI x5, .ref (kB K + 42)] (Zw (kE K) lt b c ms rd m1 P)
      refine r_iload_n (pc := 76) X 1 dX6_turn_76 rfl rfl ?_
      refine r_ck1 (fun h17 => ?_)
      refine r_ck1 (fun h18 => ?_)
      refine r_icmp_ne (pc := 77) X h17 h18 dX6_turn_77 (tgt := 99) (by decide) (fun h19 => ?_) (fun h19 => ?_)
      · refine r_iload (pc := 99) X 5 dX6_turn_99 rfl ?_
        refine r_iast (pc := 101) (f := m1 9) (ws' := (Zw (kE K) lt b c ms rd (bS m1 9 (aS (m1 9) x5 (m1 9 x5))) P)) X 42 h15 zl_3400 rfl rfl dX6_turn_101 ?_
        refine r_iinc (pc := 102) (lv' := [(0, .ref (kB K + 35)), (2, vI x2), (3, vI x3), (4, vI x4), (5, vI (x5 + 1)), (6, vI (m1 9 x5))]) X 4 [1, 2, 3, 4, 0, 5] dX6_turn_102 rfl (by decide) rfl ?_
        refine r_goto (pc := 105) X dX6_turn_105 (tgt := 47) (by decide) ?_
        refine r_sub [0, 1, 2, 3, 4] rfl ?_
        exact ih (x5 + 1) (bS m1 9 (aS (m1 9) x5 (m1 9 x5)))
      · refine r_iload_n (pc := 80) X 1 dX6_turn_80 rfl rfl ?_
        refine r_iload (pc := 81) X 5 dX6_turn_81 rfl ?_
        refine r_iconst (pc := 83) X 1 dX6_turn_83 (by decide) ?_
        refine r_callS (pc := 84) (As := [vI (m1 9 x5), vI 1]) (rest := [vI x2, vI x5, .ref (kB K + 42)]) (W' := fun q84_20 => (Zw (kE K) lt b c ms rd m1 P)) (rv := fun q84_20 => some (vI q84_20)) X dX6_turn_84 rfl (fun a ha => c_X6_partOf N lt b c ms rd m1 P (m1 9 x5) 1 K.1.2.1 K.2.2.1.1 (kE K) a ha) (fun a => Zw_d _ _ _ _ _ _ _ _) gd_X6_106 rfl (n := 2) (by decide) rfl (by decide) (by simp [z_cat, z_catR, z_catI, z_catL]) (fun q84_20 eq84_20 => ?_)
        show Rn K _ 0 0 _ 87 [(0, .ref (kB K + 35)), (2, vI x2), (3, vI x3), (4, vI x4), (5, vI x5), (6, vI (m1 9 x5))] [vI q84_20, vI x2, vI x5, .ref (kB K + 42)] (Zw (kE K) lt b c ms rd m1 P)
        refine r_iload (pc := 87) X 5 dX6_turn_87 rfl ?_
        refine r_iconst (pc := 89) X 0 dX6_turn_89 (by decide) ?_
        refine r_callS (pc := 90) (As := [vI (m1 9 x5), vI 0]) (rest := [vI q84_20, vI x2, vI x5, .ref (kB K + 42)]) (W' := fun q90_21 => (Zw (kE K) lt b c ms rd m1 P)) (rv := fun q90_21 => some (vI q90_21)) X dX6_turn_90 rfl (fun a ha => c_X6_partOf N lt b c ms rd m1 P (m1 9 x5) 0 K.1.2.1 K.2.2.1.1 (kE K) a ha) (fun a => Zw_d _ _ _ _ _ _ _ _) gd_X6_106 rfl (n := 2) (by decide) rfl (by decide) (by simp [z_cat, z_catR, z_catI, z_catL]) (fun q90_21 eq90_21 => ?_)
        show Rn K _ 0 0 _ 93 [(0, .ref (kB K + 35)), (2, vI x2), (3, vI x3), (4, vI x4), (5, vI x5), (6, vI (m1 9 x5))] [vI q90_21, vI q84_20, vI x2, vI x5, .ref (kB K + 42)] (Zw (kE K) lt b c ms rd m1 P)
        refine r_callS (pc := 93) (As := [vI x2, vI q84_20, vI q90_21]) (rest := [vI x5, .ref (kB K + 42)]) (W' := fun q93_22 => (Zw (kE K) lt b c ms rd m1 P)) (rv := fun q93_22 => some (vI q93_22)) X dX6_turn_93 rfl (fun a ha => c_X6_node N lt b c ms rd m1 P x2 q84_20 q90_21 K.1.2.1 K.2.2.1.1 (kE K) a ha) (fun a => Zw_d _ _ _ _ _ _ _ _) gd_X6_98 rfl (n := 3) (by decide) rfl (by decide) (by simp [z_cat, z_catR, z_catI, z_catL]) (fun q93_22 eq93_22 => ?_)
        show Rn K _ 0 0 _ 96 [(0, .ref (kB K + 35)), (2, vI x2), (3, vI x3), (4, vI x4), (5, vI x5), (6, vI (m1 9 x5))] [vI q93_22, vI x5, .ref (kB K + 42)] (Zw (kE K) lt b c ms rd m1 P)
        refine r_goto (pc := 96) X dX6_turn_96 (tgt := 101) (by decide) ?_
        refine r_iast (pc := 101) (f := m1 9) (ws' := (Zw (kE K) lt b c ms rd (bS m1 9 (aS (m1 9) x5 q93_22)) P)) X 42 h15 zl_3400 rfl rfl dX6_turn_101 ?_
        refine r_iinc (pc := 102) (lv' := [(0, .ref (kB K + 35)), (2, vI x2), (3, vI x3), (4, vI x4), (5, vI (x5 + 1)), (6, vI (m1 9 x5))]) X 4 [1, 2, 3, 4, 0, 5] dX6_turn_102 rfl (by decide) rfl ?_
        refine r_goto (pc := 105) X dX6_turn_105 (tgt := 47) (by decide) ?_
        refine r_sub [0, 1, 2, 3, 4] rfl ?_
        exact ih (x5 + 1) (bS m1 9 (aS (m1 9) x5 q93_22))
set_option maxRecDepth 100000 in
set_option maxHeartbeats 4000000 in
theorem t_X6_turn (N : Nat) (lt b c ms rd m : Bd) (P : PL) (x1 x2 x3 : Int) (K : KT) (X : Kok K cX6_turn yX6_turn.cls lw_g ({ frames := 6, cells := 0, slots := 0, locals := 140 } : Room) (some .int) 7) : Rn K (Q_X6_turn K lt b c ms rd m P) 0 0 (f_X6_turn N m x1 x2 x3) 0 [(0, .ref (kB K + 35)), (1, vI x1), (2, vI x2), (3, vI x3)] [] (Zw (kE K) lt b c ms rd m P) := by
  unfold f_X6_turn
  refine r_aload_n (pc := 0) X 0 dX6_turn_0 rfl rfl ?_
  refine r_iload_n (pc := 1) X 1 dX6_turn_1 rfl rfl ?_
  refine r_callV (pc := 2) (q0 := 35) (ci := 6) (As := [vI x1]) (rest := []) (W' := fun q2_1 => (Zw (kE K) lt b c ms rd m P)) (rv := fun q2_1 => some (vI q2_1)) X dX6_turn_2 rfl (fun a ha => c_X6_has N lt b c ms rd m P x1 K.1.2.1 K.2.2.1.1 (kE K) a ha) (fun a => Zw_d _ _ _ _ _ _ _ _) gd_X6_204 rfl (n := 1) (by decide) rfl (by decide) rfl rfl rfl (Nat.zero_le _) (fun q2_1 eq2_1 => ?_)
  show Rn K _ 0 0 _ 5 [(0, .ref (kB K + 35)), (1, vI x1), (2, vI x2), (3, vI x3)] [vI q2_1] (Zw (kE K) lt b c ms rd m P)
  refine r_jn (J := fun j25 => Rn K (Q_X6_turn K lt b c ms rd m P) 0 0 j25 25 [(0, .ref (kB K + 35))] [] (Zw (kE K) lt b c ms rd m P)) ?_ (fun j25 hj25 => ?_)
  · skip
    refine r_aload_n (pc := 25) X 0 dX6_turn_25 rfl rfl ?_
    refine r_bipush (pc := 26) X (-2) dX6_turn_26 (by decide) ?_
    refine r_callV (pc := 28) (q0 := 35) (ci := 6) (As := [vI (-2)]) (rest := []) (W' := fun q28_2 => (Zw (kE K) lt b c ms rd q28_2.2 P)) (rv := fun q28_2 => some (vI q28_2.1)) X dX6_turn_28 rfl (fun a ha => c_X6_refuses N lt b c ms rd m P (-2) K.1.2.1 K.2.2.1.1 (kE K) a ha) (fun a => Zw_d _ _ _ _ _ _ _ _) gd_X6_138 rfl (n := 1) (by decide) rfl (by decide) rfl rfl rfl (Nat.zero_le _) (fun q28_2 eq28_2 => ?_)
    show Rn K _ 0 0 _ 31 [(0, .ref (kB K + 35))] [vI q28_2.1] (Zw (kE K) lt b c ms rd q28_2.2 P)
    exact r_iret (pc := 31) X rfl rfl (by decide) dX6_turn_31
  refine r_ck1 (fun h3 => ?_)
  refine r_ifeq (pc := 5) X h3 dX6_turn_5 (tgt := 25) (by decide) (fun h4 => ?_) (fun h4 => ?_)
  · refine r_sub [0] rfl ?_
    exact hj25
  · refine r_iload_n (pc := 8) X 2 dX6_turn_8 rfl rfl ?_
    refine r_iconst (pc := 9) X 5 dX6_turn_9 (by decide) ?_
    refine r_bipush (pc := 10) X 6 dX6_turn_10 (by decide) ?_
    refine r_callS (pc := 12) (As := [vI x2, vI 5, vI 6]) (rest := []) (W' := fun q12_5 => (Zw (kE K) lt b c ms rd m P)) (rv := fun q12_5 => some (vI q12_5)) X dX6_turn_12 rfl (fun a ha => c_X6_in N lt b c ms rd m P x2 5 6 K.1.2.1 K.2.2.1.1 (kE K) a ha) (fun a => Zw_d _ _ _ _ _ _ _ _) gd_X6_86 rfl (n := 3) (by decide) rfl (by decide) (Nat.zero_le _) (fun q12_5 eq12_5 => ?_)
    show Rn K _ 0 0 _ 15 [(0, .ref (kB K + 35)), (1, vI x1), (2, vI x2), (3, vI x3)] [vI q12_5] (Zw (kE K) lt b c ms rd m P)
    refine r_ck1 (fun h6 => ?_)
    refine r_ifeq (pc := 15) X h6 dX6_turn_15 (tgt := 25) (by decide) (fun h7 => ?_) (fun h7 => ?_)
    · refine r_sub [0] rfl ?_
      exact hj25
    · refine r_iload_n (pc := 18) X 3 dX6_turn_18 rfl rfl ?_
      refine r_callS (pc := 19) (As := [vI x3]) (rest := []) (W' := fun q19_8 => (Zw (kE K) lt b c ms rd m P)) (rv := fun q19_8 => some (vI q19_8)) X dX6_turn_19 rfl (fun a ha => c_X6_isName N lt b c ms rd m P x3 K.1.2.1 K.2.2.1.1 (kE K) a ha) (fun a => Zw_d _ _ _ _ _ _ _ _) gd_X6_90 rfl (n := 1) (by decide) rfl (by decide) (Nat.zero_le _) (fun q19_8 eq19_8 => ?_)
      show Rn K _ 0 0 _ 22 [(0, .ref (kB K + 35)), (1, vI x1), (2, vI x2), (3, vI x3)] [vI q19_8] (Zw (kE K) lt b c ms rd m P)
      refine r_ck1 (fun h9 => ?_)
      refine r_ifne (pc := 22) X h9 dX6_turn_22 (tgt := 32) (by decide) (fun h10 => ?_) (fun h10 => ?_)
      · refine r_aload_n (pc := 32) X 0 dX6_turn_32 rfl rfl ?_
        refine r_iconst (pc := 33) X 0 dX6_turn_33 (by decide) ?_
        refine r_put (pc := 34) (ws' := (Zw (kE K) lt b c ms rd (bs0 m 10 0) P)) X 35 10 inX6 tyX6 tyX6_ok nmX6 rfl rfl (by decide) tf_X6_94 rfl (tyX6_ok 10 (by decide)) rfl rfl (Nat.le_of_ble_eq_true rfl) rfl dX6_turn_34 ?_
        refine r_aload_n (pc := 37) X 0 dX6_turn_37 rfl rfl ?_
        refine r_iload_n (pc := 38) X 1 dX6_turn_38 rfl rfl ?_
        refine r_callV (pc := 39) (q0 := 35) (ci := 6) (As := [vI x1]) (rest := []) (W' := fun q39_11 => (Zw (kE K) lt b c ms rd q39_11.2 P)) (rv := fun q39_11 => some (vI q39_11.1)) X dX6_turn_39 rfl (fun a ha => c_X6_loads N lt b c ms rd (bs0 m 10 0) P x1 K.1.2.1 K.2.2.1.1 (kE K) a ha) (fun a => Zw_d _ _ _ _ _ _ _ _) gd_X6_192 rfl (n := 1) (by decide) rfl (by decide) rfl rfl rfl (Nat.zero_le _) (fun q39_11 eq39_11 => ?_)
        show Rn K _ 0 0 _ 42 [(0, .ref (kB K + 35)), (1, vI x1), (2, vI x2), (3, vI x3)] [vI q39_11.1] (Zw (kE K) lt b c ms rd q39_11.2 P)
        refine r_istore (pc := 42) (lv' := [(0, .ref (kB K + 35)), (1, vI x1), (2, vI x2), (3, vI x3), (4, vI q39_11.1)]) X [1, 2, 3, 4, 0] dX6_turn_42 (by decide) rfl ?_
        refine r_iconst (pc := 44) X 0 dX6_turn_44 (by decide) ?_
        refine r_istore (pc := 45) (lv' := [(0, .ref (kB K + 35)), (1, vI x1), (2, vI x2), (3, vI x3), (4, vI q39_11.1), (5, vI 0)]) X [1, 2, 3, 4, 5, 0] dX6_turn_45 (by decide) rfl ?_
        refine r_sub [0, 2, 3, 4, 5] rfl ?_
        refine t_X6_turn_L47 N lt b c ms rd m P  x2 x3 q39_11.1 K X _ ?_ N 0 q39_11.2
        intro m_47
        refine r_aload_n (pc := 108) X 0 dX6_turn_108 rfl rfl ?_
        refine r_iload (pc := 109) X 2 dX6_turn_109 rfl ?_
        refine r_iload_n (pc := 111) X 1 dX6_turn_111 rfl rfl ?_
        refine r_callV (pc := 112) (q0 := 35) (ci := 6) (As := [vI q39_11.1, vI x3]) (rest := []) (W' := fun q112_23 => (Zw (kE K) lt b c ms rd q112_23.2 P)) (rv := fun q112_23 => some (vI q112_23.1)) X dX6_turn_112 rfl (fun a ha => c_X6_gives N lt b c ms rd m_47 P q39_11.1 x3 K.1.2.1 K.2.2.1.1 (kE K) a ha) (fun a => Zw_d _ _ _ _ _ _ _ _) gd_X6_236 rfl (n := 2) (by decide) rfl (by decide) rfl rfl rfl (Nat.zero_le _) (fun q112_23 eq112_23 => ?_)
        show Rn K _ 0 0 _ 115 [(0, .ref (kB K + 35)), (3, vI x3), (4, vI q39_11.1)] [vI q112_23.1] (Zw (kE K) lt b c ms rd q112_23.2 P)
        exact r_iret (pc := 115) X rfl rfl (by decide) dX6_turn_115
      · refine r_sub [0] rfl ?_
        exact hj25
theorem c_X6_turn (N : Nat) (lt b c ms rd m : Bd) (P : PL) (x1 x2 x3 : Int) (l : Launch) (D : va_G) (E : ET) (a : Int × Bd) (ha : f_X6_turn N m x1 x2 x3 = some a) : Ct l yX6_turn (Cond.code yX6_turn cX6_turn 7 (some .int) :: lw_g) ({ frames := 6, cells := 0, slots := 0, locals := 140 } : Room) D E [.ref (E.2.2.2 + 35), vI x1, vI x2, vI x3] (Zw E lt b c ms rd m P) (Zw E lt b c ms rd a.2 P) (some (vI a.1)) :=
  ct_of (av := fun E => [.ref (E.2.2.2 + 35), vI x1, vI x2, vI x3]) (W0 := fun E => Zw E lt b c ms rd m P) (W1 := fun E (a : Int × Bd) => Zw E lt b c ms rd a.2 P) (rw := fun E a => some (vI a.1)) (by decide) rfl (fun E => Zw_d E lt b c ms rd m P) (fun E => by simp [lg_sl, z_cat, z_catR, z_catI, z_catL]) (fun K X => r_lv (by simp [lv_args, z_cat, z_catR, z_catI, z_catL]) (t_X6_turn N lt b c ms rd m P x1 x2 x3 K X)) l D E a ha
abbrev Q_X6_draw (K : KT) (lt b c ms rd m : Bd) (P : PL) : (Int × Bd) → State → Prop := Qm K ({ frames := 6, cells := 0, slots := 0, locals := 140 } : Room) (fun a : Int × Bd => Zw (kE K) lt b c ms rd a.2 P) (fun a => some (vI a.1))
set_option maxRecDepth 100000 in
set_option maxHeartbeats 4000000 in
theorem t_X6_draw_L46 (N : Nat) (lt b c ms rd m : Bd) (P : PL) (x2 x3 : Int) (K : KT) (X : Kok K cX6_draw yX6_draw.cls lw_g ({ frames := 6, cells := 0, slots := 0, locals := 140 } : Room) (some .int) 7) (k : Bd → Option (Int × Bd)) (hk : ∀ (m1 : Bd), Rn K (Q_X6_draw K lt b c ms rd m P) 0 0 (k m1) 110 [(0, .ref (kB K + 35)), (3, vI x3)] [] (Zw (kE K) lt b c ms rd m1 P)) : ∀ (n : Nat) (x4 : Int) (x6 : Int) (m1 : Bd), Rn K (Q_X6_draw K lt b c ms rd m P) 0 0 (f_X6_draw_L46 x2 x3 k n x4 x6 m1) 46 [(0, .ref (kB K + 35)), (2, vI x2), (3, vI x3), (4, vL x4), (6, vI x6)] [] (Zw (kE K) lt b c ms rd m1 P) := by
  intro n
  induction n with
  | zero =>
    intro x4 x6 m1
    rw [f_X6_draw_L46]
    exact r_none
  | succ n ih =>
    intro x4 x6 m1
    rw [f_X6_draw_L46]
    refine r_iload (pc := 46) X 4 dX6_draw_46 rfl ?_
    refine r_iload_n (pc := 48) X 1 dX6_draw_48 rfl rfl ?_
    refine r_ck1 (fun h12 => ?_)
    refine r_ck1 (fun h13 => ?_)
    refine r_icmp_ge (pc := 49) X h12 h13 dX6_draw_49 (tgt := 110) (by decide) (fun h14 => ?_) (fun h14 => ?_)
    · refine r_sub [0, 2] rfl ?_
      exact hk m1
    · refine r_lload (pc := 52) X 3 dX6_draw_52 rfl ?_
      refine r_ldc2 (pc := 54) X 1103515245 tk_X6_248 dX6_draw_54 ?_
      refine r_lmul (pc := 57) X dX6_draw_57 ?_
      refine r_ldc2 (pc := 58) X 12345 tk_X6_250 dX6_draw_58 ?_
      refine r_ladd (pc := 61) X dX6_draw_61 ?_
      refine r_ldc2 (pc := 62) X 2147483648 tk_X6_252 dX6_draw_62 ?_
      refine r_ckL (fun h15 => ?_)
      refine r_lrem (pc := 65) X h15 (by decide) (by decide) dX6_draw_65 ?_
      refine r_lstore (pc := 66) (lv' := [(0, .ref (kB K + 35)), (2, vI x2), (3, vI x3), (4, vL (Int.tmod ((x4 * 1103515245) + 12345) 2147483648)), (6, vI x6)]) X [1, 2, 3, 0, 4] dX6_draw_66 (by decide) rfl ?_
      refine r_aload_n (pc := 68) X 0 dX6_draw_68 rfl rfl ?_
      refine r_lload (pc := 69) X 3 dX6_draw_69 rfl ?_
      refine r_ldc2 (pc := 71) X 65536 tk_X6_254 dX6_draw_71 ?_
      refine r_ckL (fun h16 => ?_)
      refine r_ldiv (pc := 74) X h16 (by decide) (by decide) dX6_draw_74 ?_
      refine r_ldc2 (pc := 75) X 7 tk_X6_256 dX6_draw_75 ?_
      refine r_ckL (fun h17 => ?_)
      refine r_lrem (pc := 78) X h17 (by decide) (by decide) dX6_draw_78 ?_
      refine r_l2i (pc := 79) X dX6_draw_79 ?_
      refine r_lload (pc := 80) X 3 dX6_draw_80 rfl ?_
      refine r_ldc2 (pc := 82) X 1024 tk_X6_258 dX6_draw_82 ?_
      refine r_ldiv (pc := 85) X h16 (by decide) (by decide) dX6_draw_85 ?_
      refine r_iload_n (pc := 86) X 1 dX6_draw_86 rfl rfl ?_
      refine r_i2l (pc := 87) X h13 dX6_draw_87 ?_
      refine r_ckL (fun h18 => ?_)
      refine r_ckL (fun h19 => ?_)
      refine r_ckZ (fun h20 => ?_)
      refine r_lrem (pc := 88) X h18 h19 h20 dX6_draw_88 ?_
      refine r_l2i (pc := 89) X dX6_draw_89 ?_
      refine r_lload (pc := 90) X 3 dX6_draw_90 rfl ?_
      refine r_ldc2 (pc := 92) X 32768 tk_X6_260 dX6_draw_92 ?_
      refine r_ldiv (pc := 95) X h16 (by decide) (by decide) dX6_draw_95 ?_
      refine r_iload_n (pc := 96) X 1 dX6_draw_96 rfl rfl ?_
      refine r_i2l (pc := 97) X h13 dX6_draw_97 ?_
      refine r_ckL (fun h21 => ?_)
      refine r_lrem (pc := 98) X h21 h19 h20 dX6_draw_98 ?_
      refine r_l2i (pc := 99) X dX6_draw_99 ?_
      refine r_callV (pc := 100) (q0 := 35) (ci := 6) (As := [vI (Int.tmod (Int.tdiv (Int.tmod ((x4 * 1103515245) + 12345) 2147483648) 65536) 7), vI (Int.tmod (Int.tdiv (Int.tmod ((x4 * 1103515245) + 12345) 2147483648) 1024) x2), vI (Int.tmod (Int.tdiv (Int.tmod ((x4 * 1103515245) + 12345) 2147483648) 32768) x2)]) (rest := []) (W' := fun q100_22 => (Zw (kE K) lt b c ms rd q100_22.2 P)) (rv := fun q100_22 => some (vI q100_22.1)) X dX6_draw_100 rfl (fun a ha => c_X6_adds N lt b c ms rd m1 P (Int.tmod (Int.tdiv (Int.tmod ((x4 * 1103515245) + 12345) 2147483648) 65536) 7) (Int.tmod (Int.tdiv (Int.tmod ((x4 * 1103515245) + 12345) 2147483648) 1024) x2) (Int.tmod (Int.tdiv (Int.tmod ((x4 * 1103515245) + 12345) 2147483648) 32768) x2) K.1.2.1 K.2.2.1.1 (kE K) a ha) (fun a => Zw_d _ _ _ _ _ _ _ _) gd_X6_110 rfl (n := 3) (by decide) rfl (by decide) rfl rfl rfl (Nat.zero_le _) (fun q100_22 eq100_22 => ?_)
      show Rn K _ 0 0 _ 103 [(0, .ref (kB K + 35)), (2, vI x2), (3, vI x3), (4, vL (Int.tmod ((x4 * 1103515245) + 12345) 2147483648)), (6, vI x6)] [vI q100_22.1] (Zw (kE K) lt b c ms rd q100_22.2 P)
      refine r_pop (pc := 103) X dX6_draw_103 rfl ?_
      refine r_iinc (pc := 104) (lv' := [(0, .ref (kB K + 35)), (2, vI x2), (3, vI x3), (4, vL (Int.tmod ((x4 * 1103515245) + 12345) 2147483648)), (6, vI (x6 + 1))]) X 4 [1, 2, 3, 4, 0] dX6_draw_104 rfl (by decide) rfl ?_
      refine r_goto (pc := 107) X dX6_draw_107 (tgt := 46) (by decide) ?_
      exact ih (Int.tmod ((x4 * 1103515245) + 12345) 2147483648) (x6 + 1) q100_22.2
set_option maxRecDepth 100000 in
set_option maxHeartbeats 4000000 in
theorem t_X6_draw (N : Nat) (lt b c ms rd m : Bd) (P : PL) (x1 x2 x3 : Int) (K : KT) (X : Kok K cX6_draw yX6_draw.cls lw_g ({ frames := 6, cells := 0, slots := 0, locals := 140 } : Room) (some .int) 7) : Rn K (Q_X6_draw K lt b c ms rd m P) 0 0 (f_X6_draw N m x1 x2 x3) 0 [(0, .ref (kB K + 35)), (1, vI x1), (2, vI x2), (3, vI x3)] [] (Zw (kE K) lt b c ms rd m P) := by
  unfold f_X6_draw
  refine r_iload_n (pc := 0) X 1 dX6_draw_0 rfl rfl ?_
  refine r_iconst (pc := 1) X 0 dX6_draw_1 (by decide) ?_
  refine r_ldc (pc := 2) X 999999 tk_X6_247 dX6_draw_2 ?_
  refine r_callS (pc := 4) (As := [vI x1, vI 0, vI 999999]) (rest := []) (W' := fun q4_1 => (Zw (kE K) lt b c ms rd m P)) (rv := fun q4_1 => some (vI q4_1)) X dX6_draw_4 rfl (fun a ha => c_X6_in N lt b c ms rd m P x1 0 999999 K.1.2.1 K.2.2.1.1 (kE K) a ha) (fun a => Zw_d _ _ _ _ _ _ _ _) gd_X6_86 rfl (n := 3) (by decide) rfl (by decide) (Nat.zero_le _) (fun q4_1 eq4_1 => ?_)
  show Rn K _ 0 0 _ 7 [(0, .ref (kB K + 35)), (1, vI x1), (2, vI x2), (3, vI x3)] [vI q4_1] (Zw (kE K) lt b c ms rd m P)
  refine r_jn (J := fun j27 => Rn K (Q_X6_draw K lt b c ms rd m P) 0 0 j27 27 [(0, .ref (kB K + 35))] [] (Zw (kE K) lt b c ms rd m P)) ?_ (fun j27 hj27 => ?_)
  · skip
    refine r_aload_n (pc := 27) X 0 dX6_draw_27 rfl rfl ?_
    refine r_bipush (pc := 28) X (-2) dX6_draw_28 (by decide) ?_
    refine r_callV (pc := 30) (q0 := 35) (ci := 6) (As := [vI (-2)]) (rest := []) (W' := fun q30_2 => (Zw (kE K) lt b c ms rd q30_2.2 P)) (rv := fun q30_2 => some (vI q30_2.1)) X dX6_draw_30 rfl (fun a ha => c_X6_refuses N lt b c ms rd m P (-2) K.1.2.1 K.2.2.1.1 (kE K) a ha) (fun a => Zw_d _ _ _ _ _ _ _ _) gd_X6_138 rfl (n := 1) (by decide) rfl (by decide) rfl rfl rfl (Nat.zero_le _) (fun q30_2 eq30_2 => ?_)
    show Rn K _ 0 0 _ 33 [(0, .ref (kB K + 35))] [vI q30_2.1] (Zw (kE K) lt b c ms rd q30_2.2 P)
    exact r_iret (pc := 33) X rfl rfl (by decide) dX6_draw_33
  refine r_ck1 (fun h3 => ?_)
  refine r_ifeq (pc := 7) X h3 dX6_draw_7 (tgt := 27) (by decide) (fun h4 => ?_) (fun h4 => ?_)
  · refine r_sub [0] rfl ?_
    exact hj27
  · refine r_iload_n (pc := 10) X 2 dX6_draw_10 rfl rfl ?_
    refine r_iconst (pc := 11) X 1 dX6_draw_11 (by decide) ?_
    refine r_bipush (pc := 12) X 12 dX6_draw_12 (by decide) ?_
    refine r_callS (pc := 14) (As := [vI x2, vI 1, vI 12]) (rest := []) (W' := fun q14_5 => (Zw (kE K) lt b c ms rd m P)) (rv := fun q14_5 => some (vI q14_5)) X dX6_draw_14 rfl (fun a ha => c_X6_in N lt b c ms rd m P x2 1 12 K.1.2.1 K.2.2.1.1 (kE K) a ha) (fun a => Zw_d _ _ _ _ _ _ _ _) gd_X6_86 rfl (n := 3) (by decide) rfl (by decide) (Nat.zero_le _) (fun q14_5 eq14_5 => ?_)
    show Rn K _ 0 0 _ 17 [(0, .ref (kB K + 35)), (1, vI x1), (2, vI x2), (3, vI x3)] [vI q14_5] (Zw (kE K) lt b c ms rd m P)
    refine r_ck1 (fun h6 => ?_)
    refine r_ifeq (pc := 17) X h6 dX6_draw_17 (tgt := 27) (by decide) (fun h7 => ?_) (fun h7 => ?_)
    · refine r_sub [0] rfl ?_
      exact hj27
    · refine r_iload_n (pc := 20) X 3 dX6_draw_20 rfl rfl ?_
      refine r_callS (pc := 21) (As := [vI x3]) (rest := []) (W' := fun q21_8 => (Zw (kE K) lt b c ms rd m P)) (rv := fun q21_8 => some (vI q21_8)) X dX6_draw_21 rfl (fun a ha => c_X6_isName N lt b c ms rd m P x3 K.1.2.1 K.2.2.1.1 (kE K) a ha) (fun a => Zw_d _ _ _ _ _ _ _ _) gd_X6_90 rfl (n := 1) (by decide) rfl (by decide) (Nat.zero_le _) (fun q21_8 eq21_8 => ?_)
      show Rn K _ 0 0 _ 24 [(0, .ref (kB K + 35)), (1, vI x1), (2, vI x2), (3, vI x3)] [vI q21_8] (Zw (kE K) lt b c ms rd m P)
      refine r_ck1 (fun h9 => ?_)
      refine r_ifne (pc := 24) X h9 dX6_draw_24 (tgt := 34) (by decide) (fun h10 => ?_) (fun h10 => ?_)
      · refine r_iload_n (pc := 34) X 1 dX6_draw_34 rfl rfl ?_
        refine r_ck1 (fun h11 => ?_)
        refine r_i2l (pc := 35) X h11 dX6_draw_35 ?_
        refine r_lstore (pc := 36) (lv' := [(0, .ref (kB K + 35)), (1, vI x1), (2, vI x2), (3, vI x3), (4, vL x1)]) X [1, 2, 3, 4, 0] dX6_draw_36 (by decide) rfl ?_
        refine r_aload_n (pc := 38) X 0 dX6_draw_38 rfl rfl ?_
        refine r_iconst (pc := 39) X 0 dX6_draw_39 (by decide) ?_
        refine r_put (pc := 40) (ws' := (Zw (kE K) lt b c ms rd (bs0 m 10 0) P)) X 35 10 inX6 tyX6 tyX6_ok nmX6 rfl rfl (by decide) tf_X6_94 rfl (tyX6_ok 10 (by decide)) rfl rfl (Nat.le_of_ble_eq_true rfl) rfl dX6_draw_40 ?_
        refine r_iconst (pc := 43) X 0 dX6_draw_43 (by decide) ?_
        refine r_istore (pc := 44) (lv' := [(0, .ref (kB K + 35)), (1, vI x1), (2, vI x2), (3, vI x3), (4, vL x1), (6, vI 0)]) X [1, 2, 3, 4, 5, 0] dX6_draw_44 (by decide) rfl ?_
        refine r_sub [0, 2, 3, 4, 5] rfl ?_
        refine t_X6_draw_L46 N lt b c ms rd m P  x2 x3 K X _ ?_ N x1 0 (bs0 m 10 0)
        intro m_46
        refine r_aload_n (pc := 110) X 0 dX6_draw_110 rfl rfl ?_
        refine r_iconst (pc := 111) X 0 dX6_draw_111 (by decide) ?_
        refine r_iload_n (pc := 112) X 1 dX6_draw_112 rfl rfl ?_
        refine r_callV (pc := 113) (q0 := 35) (ci := 6) (As := [vI 0, vI x3]) (rest := []) (W' := fun q113_23 => (Zw (kE K) lt b c ms rd q113_23.2 P)) (rv := fun q113_23 => some (vI q113_23.1)) X dX6_draw_113 rfl (fun a ha => c_X6_gives N lt b c ms rd m_46 P 0 x3 K.1.2.1 K.2.2.1.1 (kE K) a ha) (fun a => Zw_d _ _ _ _ _ _ _ _) gd_X6_236 rfl (n := 2) (by decide) rfl (by decide) rfl rfl rfl (Nat.zero_le _) (fun q113_23 eq113_23 => ?_)
        show Rn K _ 0 0 _ 116 [(0, .ref (kB K + 35)), (3, vI x3)] [vI q113_23.1] (Zw (kE K) lt b c ms rd q113_23.2 P)
        exact r_iret (pc := 116) X rfl rfl (by decide) dX6_draw_116
      · refine r_sub [0] rfl ?_
        exact hj27
theorem c_X6_draw (N : Nat) (lt b c ms rd m : Bd) (P : PL) (x1 x2 x3 : Int) (l : Launch) (D : va_G) (E : ET) (a : Int × Bd) (ha : f_X6_draw N m x1 x2 x3 = some a) : Ct l yX6_draw (Cond.code yX6_draw cX6_draw 7 (some .int) :: lw_g) ({ frames := 6, cells := 0, slots := 0, locals := 140 } : Room) D E [.ref (E.2.2.2 + 35), vI x1, vI x2, vI x3] (Zw E lt b c ms rd m P) (Zw E lt b c ms rd a.2 P) (some (vI a.1)) :=
  ct_of (av := fun E => [.ref (E.2.2.2 + 35), vI x1, vI x2, vI x3]) (W0 := fun E => Zw E lt b c ms rd m P) (W1 := fun E (a : Int × Bd) => Zw E lt b c ms rd a.2 P) (rw := fun E a => some (vI a.1)) (by decide) rfl (fun E => Zw_d E lt b c ms rd m P) (fun E => by simp [lg_sl, z_cat, z_catR, z_catI, z_catL]) (fun K X => r_lv (by simp [lv_args, z_cat, z_catR, z_catI, z_catL]) (t_X6_draw N lt b c ms rd m P x1 x2 x3 K X)) l D E a ha
abbrev Q_X6_back (K : KT) (lt b c ms rd m : Bd) (P : PL) : (Int × Bd) → State → Prop := Qm K ({ frames := 1, cells := 0, slots := 0, locals := 21 } : Room) (fun a : Int × Bd => Zw (kE K) lt b c ms rd a.2 P) (fun a => some (vI a.1))
set_option maxRecDepth 100000 in
set_option maxHeartbeats 4000000 in
theorem t_X6_back_L26 (N : Nat) (lt b c ms rd m : Bd) (P : PL) (K : KT) (X : Kok K cX6_back yX6_back.cls lw_g ({ frames := 1, cells := 0, slots := 0, locals := 21 } : Room) (some .int) 2) (k : Bd → Option (Int × Bd)) (hk : ∀ (m1 : Bd), Rn K (Q_X6_back K lt b c ms rd m P) 0 0 (k m1) 60 [(0, .ref (kB K + 35))] [] (Zw (kE K) lt b c ms rd m1 P)) : ∀ (n : Nat) (x1 : Int) (m1 : Bd), Rn K (Q_X6_back K lt b c ms rd m P) 0 0 (f_X6_back_L26 k n x1 m1) 26 [(0, .ref (kB K + 35)), (1, vI x1)] [] (Zw (kE K) lt b c ms rd m1 P) := by
  intro n
  induction n with
  | zero =>
    intro x1 m1
    rw [f_X6_back_L26]
    exact r_none
  | succ n ih =>
    intro x1 m1
    rw [f_X6_back_L26]
    refine r_iload_n (pc := 26) X 1 dX6_back_26 rfl rfl ?_
    refine r_sipush (pc := 27) X 320 dX6_back_27 (by decide) ?_
    refine r_ck1 (fun h3 => ?_)
    refine r_icmp_ge (pc := 30) X h3 (by decide) dX6_back_30 (tgt := 60) (by decide) (fun h4 => ?_) (fun h4 => ?_)
    · refine r_sub [0] rfl ?_
      exact hk m1
    · refine r_aload_n (pc := 33) X 0 dX6_back_33 rfl rfl ?_
      refine r_get (pc := 34) (v := .ref (kB K + 37)) X 35 1 inX6 rfl rfl (by decide) tf_X6_13 rfl dX6_back_34 ?_
      refine r_iload_n (pc := 37) X 1 dX6_back_37 rfl rfl ?_
      refine r_aload_n (pc := 38) X 0 dX6_back_38 rfl rfl ?_
      refine r_get (pc := 39) (v := .ref (kB K + 38)) X 35 2 inX6 rfl rfl (by decide) tf_X6_16 rfl dX6_back_39 ?_
      refine r_sipush (pc := 42) X 320 dX6_back_42 (by decide) ?_
      refine r_aload_n (pc := 45) X 0 dX6_back_45 rfl rfl ?_
      refine r_get (pc := 46) (v := vI (m1 4 0)) X 35 4 inX6 rfl rfl (by decide) tf_X6_132 rfl dX6_back_46 ?_
      refine r_imul (pc := 49) X dX6_back_49 ?_
      refine r_iload_n (pc := 50) X 1 dX6_back_50 rfl rfl ?_
      refine r_iadd (pc := 51) X dX6_back_51 ?_
      refine r_ckA (fun h5 => ?_)
      refine r_iald (pc := 52) (f := m1 2) X 38 h5 zl_2560 rfl dX6_back_52 ?_
      refine r_ckA (fun h6 => ?_)
      refine r_iast (pc := 53) (f := m1 1) (ws' := (Zw (kE K) lt b c ms rd (bS m1 1 (aS (m1 1) x1 (m1 2 ((320 * (m1 4 0)) + x1)))) P)) X 37 h6 zl_320 rfl rfl dX6_back_53 ?_
      refine r_iinc (pc := 54) (lv' := [(0, .ref (kB K + 35)), (1, vI (x1 + 1))]) X 1 [1, 0] dX6_back_54 rfl (by decide) rfl ?_
      refine r_goto (pc := 57) X dX6_back_57 (tgt := 26) (by decide) ?_
      exact ih (x1 + 1) (bS m1 1 (aS (m1 1) x1 (m1 2 ((320 * (m1 4 0)) + x1))))
set_option maxRecDepth 100000 in
set_option maxHeartbeats 4000000 in
theorem t_X6_back_L62 (N : Nat) (lt b c ms rd m : Bd) (P : PL) (K : KT) (X : Kok K cX6_back yX6_back.cls lw_g ({ frames := 1, cells := 0, slots := 0, locals := 21 } : Room) (some .int) 2) (k : Bd → Option (Int × Bd)) (hk : ∀ (m1 : Bd), Rn K (Q_X6_back K lt b c ms rd m P) 0 0 (k m1) 94 [(0, .ref (kB K + 35))] [] (Zw (kE K) lt b c ms rd m1 P)) : ∀ (n : Nat) (x1 : Int) (m1 : Bd), Rn K (Q_X6_back K lt b c ms rd m P) 0 0 (f_X6_back_L62 k n x1 m1) 62 [(0, .ref (kB K + 35)), (1, vI x1)] [] (Zw (kE K) lt b c ms rd m1 P) := by
  intro n
  induction n with
  | zero =>
    intro x1 m1
    rw [f_X6_back_L62]
    exact r_none
  | succ n ih =>
    intro x1 m1
    rw [f_X6_back_L62]
    refine r_iload_n (pc := 62) X 1 dX6_back_62 rfl rfl ?_
    refine r_bipush (pc := 63) X 8 dX6_back_63 (by decide) ?_
    refine r_ck1 (fun h7 => ?_)
    refine r_icmp_ge (pc := 65) X h7 (by decide) dX6_back_65 (tgt := 94) (by decide) (fun h8 => ?_) (fun h8 => ?_)
    · refine r_sub [0] rfl ?_
      exact hk m1
    · refine r_aload_n (pc := 68) X 0 dX6_back_68 rfl rfl ?_
      refine r_get (pc := 69) (v := .ref (kB K + 36)) X 35 0 inX6 rfl rfl (by decide) tf_X6_7 rfl dX6_back_69 ?_
      refine r_iload_n (pc := 72) X 1 dX6_back_72 rfl rfl ?_
      refine r_aload_n (pc := 73) X 0 dX6_back_73 rfl rfl ?_
      refine r_get (pc := 74) (v := .ref (kB K + 39)) X 35 3 inX6 rfl rfl (by decide) tf_X6_19 rfl dX6_back_74 ?_
      refine r_bipush (pc := 77) X 8 dX6_back_77 (by decide) ?_
      refine r_aload_n (pc := 79) X 0 dX6_back_79 rfl rfl ?_
      refine r_get (pc := 80) (v := vI (m1 4 0)) X 35 4 inX6 rfl rfl (by decide) tf_X6_132 rfl dX6_back_80 ?_
      refine r_imul (pc := 83) X dX6_back_83 ?_
      refine r_iload_n (pc := 84) X 1 dX6_back_84 rfl rfl ?_
      refine r_iadd (pc := 85) X dX6_back_85 ?_
      refine r_ckA (fun h9 => ?_)
      refine r_iald (pc := 86) (f := m1 3) X 39 h9 zl_64 rfl dX6_back_86 ?_
      refine r_ckA (fun h10 => ?_)
      refine r_iast (pc := 87) (f := m1 0) (ws' := (Zw (kE K) lt b c ms rd (bS m1 0 (aS (m1 0) x1 (m1 3 ((8 * (m1 4 0)) + x1)))) P)) X 36 h10 zl_8 rfl rfl dX6_back_87 ?_
      refine r_iinc (pc := 88) (lv' := [(0, .ref (kB K + 35)), (1, vI (x1 + 1))]) X 1 [1, 0] dX6_back_88 rfl (by decide) rfl ?_
      refine r_goto (pc := 91) X dX6_back_91 (tgt := 62) (by decide) ?_
      exact ih (x1 + 1) (bS m1 0 (aS (m1 0) x1 (m1 3 ((8 * (m1 4 0)) + x1))))
set_option maxRecDepth 100000 in
set_option maxHeartbeats 4000000 in
theorem t_X6_back (N : Nat) (lt b c ms rd m : Bd) (P : PL) (K : KT) (X : Kok K cX6_back yX6_back.cls lw_g ({ frames := 1, cells := 0, slots := 0, locals := 21 } : Room) (some .int) 2) : Rn K (Q_X6_back K lt b c ms rd m P) 0 0 (f_X6_back N m) 0 [(0, .ref (kB K + 35))] [] (Zw (kE K) lt b c ms rd m P) := by
  unfold f_X6_back
  refine r_aload_n (pc := 0) X 0 dX6_back_0 rfl rfl ?_
  refine r_get (pc := 1) (v := vI (m 4 0)) X 35 4 inX6 rfl rfl (by decide) tf_X6_132 rfl dX6_back_1 ?_
  refine r_ck1 (fun h1 => ?_)
  refine r_ifne (pc := 4) X h1 dX6_back_4 (tgt := 14) (by decide) (fun h2 => ?_) (fun h2 => ?_)
  · refine r_aload_n (pc := 14) X 0 dX6_back_14 rfl rfl ?_
    refine r_dup (pc := 15) X dX6_back_15 rfl ?_
    refine r_get (pc := 16) (v := vI (m 4 0)) X 35 4 inX6 rfl rfl (by decide) tf_X6_132 rfl dX6_back_16 ?_
    refine r_iconst (pc := 19) X 1 dX6_back_19 (by decide) ?_
    refine r_isub (pc := 20) X dX6_back_20 ?_
    refine r_put (pc := 21) (ws' := (Zw (kE K) lt b c ms rd (bs0 m 4 ((m 4 0) - 1)) P)) X 35 4 inX6 tyX6 tyX6_ok nmX6 rfl rfl (by decide) tf_X6_132 rfl (tyX6_ok 4 (by decide)) rfl rfl (Nat.le_of_ble_eq_true rfl) rfl dX6_back_21 ?_
    refine r_iconst (pc := 24) X 0 dX6_back_24 (by decide) ?_
    refine r_istore_n (pc := 25) (lv' := [(0, .ref (kB K + 35)), (1, vI 0)]) X [1, 0] dX6_back_25 rfl (by decide) rfl ?_
    refine t_X6_back_L26 N lt b c ms rd m P   K X _ ?_ N 0 (bs0 m 4 ((m 4 0) - 1))
    intro m_26
    refine r_iconst (pc := 60) X 0 dX6_back_60 (by decide) ?_
    refine r_istore_n (pc := 61) (lv' := [(0, .ref (kB K + 35)), (1, vI 0)]) X [1, 0] dX6_back_61 rfl (by decide) rfl ?_
    refine t_X6_back_L62 N lt b c ms rd m P   K X _ ?_ N 0 m_26
    intro m_62
    refine r_aload_n (pc := 94) X 0 dX6_back_94 rfl rfl ?_
    refine r_get (pc := 95) (v := vI (m_62 4 0)) X 35 4 inX6 rfl rfl (by decide) tf_X6_132 rfl dX6_back_95 ?_
    exact r_iret (pc := 98) X rfl rfl (by decide) dX6_back_98
  · refine r_aload_n (pc := 7) X 0 dX6_back_7 rfl rfl ?_
    refine r_bipush (pc := 8) X (-3) dX6_back_8 (by decide) ?_
    refine r_callV (pc := 10) (q0 := 35) (ci := 6) (As := [vI (-3)]) (rest := []) (W' := fun q10_11 => (Zw (kE K) lt b c ms rd q10_11.2 P)) (rv := fun q10_11 => some (vI q10_11.1)) X dX6_back_10 rfl (fun a ha => c_X6_refuses N lt b c ms rd m P (-3) K.1.2.1 K.2.2.1.1 (kE K) a ha) (fun a => Zw_d _ _ _ _ _ _ _ _) gd_X6_138 rfl (n := 1) (by decide) rfl (by decide) rfl rfl rfl (Nat.zero_le _) (fun q10_11 eq10_11 => ?_)
    show Rn K _ 0 0 _ 13 [(0, .ref (kB K + 35))] [vI q10_11.1] (Zw (kE K) lt b c ms rd q10_11.2 P)
    exact r_iret (pc := 13) X rfl rfl (by decide) dX6_back_13
theorem c_X6_back (N : Nat) (lt b c ms rd m : Bd) (P : PL) (l : Launch) (D : va_G) (E : ET) (a : Int × Bd) (ha : f_X6_back N m = some a) : Ct l yX6_back (Cond.code yX6_back cX6_back 2 (some .int) :: lw_g) ({ frames := 1, cells := 0, slots := 0, locals := 21 } : Room) D E [.ref (E.2.2.2 + 35)] (Zw E lt b c ms rd m P) (Zw E lt b c ms rd a.2 P) (some (vI a.1)) :=
  ct_of (av := fun E => [.ref (E.2.2.2 + 35)]) (W0 := fun E => Zw E lt b c ms rd m P) (W1 := fun E (a : Int × Bd) => Zw E lt b c ms rd a.2 P) (rw := fun E a => some (vI a.1)) (by decide) rfl (fun E => Zw_d E lt b c ms rd m P) (fun E => by simp [lg_sl, z_cat, z_catR, z_catI, z_catL]) (fun K X => r_lv (by simp [lv_args, z_cat, z_catR, z_catI, z_catL]) (t_X6_back N lt b c ms rd m P  K X)) l D E a ha
abbrev Q_X6_toldOf (K : KT) (lt b c ms rd m : Bd) (P : PL) : (Int) → State → Prop := Qm K ({ frames := 0, cells := 0, slots := 0, locals := 0 } : Room) (fun a : Int => Zw (kE K) lt b c ms rd m P) (fun a => some (vI a))
set_option maxRecDepth 100000 in
set_option maxHeartbeats 4000000 in
theorem t_X6_toldOf_L64 (N : Nat) (lt b c ms rd m : Bd) (P : PL) (K : KT) (X : Kok K cX6_toldOf yX6_toldOf.cls lw_g ({ frames := 0, cells := 0, slots := 0, locals := 0 } : Room) (some .int) 4) (k : Int → Option (Int)) (hk : ∀ (x2 : Int), Rn K (Q_X6_toldOf K lt b c ms rd m P) 0 0 (k x2) 95 [(2, vI x2)] [] (Zw (kE K) lt b c ms rd m P)) : ∀ (n : Nat) (x2 : Int) (x3 : Int), Rn K (Q_X6_toldOf K lt b c ms rd m P) 0 0 (f_X6_toldOf_L64 m k n x2 x3) 64 [(0, .ref (kB K + 35)), (2, vI x2), (3, vI x3)] [] (Zw (kE K) lt b c ms rd m P) := by
  intro n
  induction n with
  | zero =>
    intro x2 x3
    rw [f_X6_toldOf_L64]
    exact r_none
  | succ n ih =>
    intro x2 x3
    rw [f_X6_toldOf_L64]
    refine r_iload_n (pc := 64) X 2 dX6_toldOf_64 rfl rfl ?_
    refine r_bipush (pc := 65) X 8 dX6_toldOf_65 (by decide) ?_
    refine r_ck1 (fun h12 => ?_)
    refine r_icmp_ge (pc := 67) X h12 (by decide) dX6_toldOf_67 (tgt := 95) (by decide) (fun h13 => ?_) (fun h13 => ?_)
    · refine r_sub [1] rfl ?_
      exact hk x2
    · refine r_iload_n (pc := 70) X 1 dX6_toldOf_70 rfl rfl ?_
      refine r_aload_n (pc := 71) X 0 dX6_toldOf_71 rfl rfl ?_
      refine r_get (pc := 72) (v := .ref (kB K + 36)) X 35 0 inX6 rfl rfl (by decide) tf_X6_7 rfl dX6_toldOf_72 ?_
      refine r_iload_n (pc := 75) X 2 dX6_toldOf_75 rfl rfl ?_
      refine r_ckA (fun h14 => ?_)
      refine r_iald (pc := 76) (f := m 0) X 36 h14 zl_8 rfl dX6_toldOf_76 ?_
      refine r_ck1 (fun h15 => ?_)
      refine r_ifle (pc := 77) X h15 dX6_toldOf_77 (tgt := 86) (by decide) (fun h16 => ?_) (fun h16 => ?_)
      · refine r_iconst (pc := 86) X 0 dX6_toldOf_86 (by decide) ?_
        refine r_ior (pc := 87) X dX6_toldOf_87 ?_
        refine r_istore_n (pc := 88) (lv' := [(0, .ref (kB K + 35)), (2, vI (i_or x2 0)), (3, vI x3)]) X [1, 0, 2] dX6_toldOf_88 rfl (by decide) rfl ?_
        refine r_iinc (pc := 89) (lv' := [(0, .ref (kB K + 35)), (2, vI (i_or x2 0)), (3, vI (x3 + 1))]) X 2 [1, 2, 0] dX6_toldOf_89 rfl (by decide) rfl ?_
        refine r_goto (pc := 92) X dX6_toldOf_92 (tgt := 64) (by decide) ?_
        exact ih (i_or x2 0) (x3 + 1)
      · refine r_iconst (pc := 80) X 1 dX6_toldOf_80 (by decide) ?_
        refine r_iload_n (pc := 81) X 2 dX6_toldOf_81 rfl rfl ?_
        refine r_ishl (pc := 82) X dX6_toldOf_82 ?_
        refine r_goto (pc := 83) X dX6_toldOf_83 (tgt := 87) (by decide) ?_
        refine r_ior (pc := 87) X dX6_toldOf_87 ?_
        refine r_istore_n (pc := 88) (lv' := [(0, .ref (kB K + 35)), (2, vI (i_or x2 (i_shl 1 x3))), (3, vI x3)]) X [1, 0, 2] dX6_toldOf_88 rfl (by decide) rfl ?_
        refine r_iinc (pc := 89) (lv' := [(0, .ref (kB K + 35)), (2, vI (i_or x2 (i_shl 1 x3))), (3, vI (x3 + 1))]) X 2 [1, 2, 0] dX6_toldOf_89 rfl (by decide) rfl ?_
        refine r_goto (pc := 92) X dX6_toldOf_92 (tgt := 64) (by decide) ?_
        exact ih (i_or x2 (i_shl 1 x3)) (x3 + 1)
set_option maxRecDepth 100000 in
set_option maxHeartbeats 4000000 in
theorem t_X6_toldOf (N : Nat) (lt b c ms rd m : Bd) (P : PL) (x1 : Int) (K : KT) (X : Kok K cX6_toldOf yX6_toldOf.cls lw_g ({ frames := 0, cells := 0, slots := 0, locals := 0 } : Room) (some .int) 4) : Rn K (Q_X6_toldOf K lt b c ms rd m P) 0 0 (f_X6_toldOf N m x1) 0 [(0, .ref (kB K + 35)), (1, vI x1)] [] (Zw (kE K) lt b c ms rd m P) := by
  unfold f_X6_toldOf
  refine r_iconst (pc := 0) X 0 dX6_toldOf_0 (by decide) ?_
  refine r_istore_n (pc := 1) (lv' := [(0, .ref (kB K + 35)), (1, vI x1), (2, vI 0)]) X [1, 2, 0] dX6_toldOf_1 rfl (by decide) rfl ?_
  refine r_iload_n (pc := 2) X 1 dX6_toldOf_2 rfl rfl ?_
  refine r_ck1 (fun h1 => ?_)
  refine r_case (fun h3 => ?_) (fun h3 => ?_)
  · refine r_tableIn (pc := 3) X 0 h3 (by decide) dX6_toldOf_3 (by decide) rfl (tgt := 40) (by decide) ?_
    refine r_aload_n (pc := 40) X 0 dX6_toldOf_40 rfl rfl ?_
    refine r_get (pc := 41) (v := .ref (kB K + 40)) X 35 5 inX6 rfl rfl (by decide) tf_X6_22 rfl dX6_toldOf_41 ?_
    refine r_iload_n (pc := 44) X 1 dX6_toldOf_44 rfl rfl ?_
    refine r_ckA (fun h4 => ?_)
    refine r_iald (pc := 45) (f := m 5) X 40 h4 zl_3 rfl dX6_toldOf_45 ?_
    exact r_iret (pc := 46) X rfl rfl (by decide) dX6_toldOf_46
  refine r_case (fun h5 => ?_) (fun h5 => ?_)
  · refine r_tableIn (pc := 3) X 1 h5 (by decide) dX6_toldOf_3 (by decide) rfl (tgt := 40) (by decide) ?_
    refine r_aload_n (pc := 40) X 0 dX6_toldOf_40 rfl rfl ?_
    refine r_get (pc := 41) (v := .ref (kB K + 40)) X 35 5 inX6 rfl rfl (by decide) tf_X6_22 rfl dX6_toldOf_41 ?_
    refine r_iload_n (pc := 44) X 1 dX6_toldOf_44 rfl rfl ?_
    refine r_ckA (fun h6 => ?_)
    refine r_iald (pc := 45) (f := m 5) X 40 h6 zl_3 rfl dX6_toldOf_45 ?_
    exact r_iret (pc := 46) X rfl rfl (by decide) dX6_toldOf_46
  refine r_case (fun h7 => ?_) (fun h7 => ?_)
  · refine r_tableIn (pc := 3) X 2 h7 (by decide) dX6_toldOf_3 (by decide) rfl (tgt := 40) (by decide) ?_
    refine r_aload_n (pc := 40) X 0 dX6_toldOf_40 rfl rfl ?_
    refine r_get (pc := 41) (v := .ref (kB K + 40)) X 35 5 inX6 rfl rfl (by decide) tf_X6_22 rfl dX6_toldOf_41 ?_
    refine r_iload_n (pc := 44) X 1 dX6_toldOf_44 rfl rfl ?_
    refine r_ckA (fun h8 => ?_)
    refine r_iald (pc := 45) (f := m 5) X 40 h8 zl_3 rfl dX6_toldOf_45 ?_
    exact r_iret (pc := 46) X rfl rfl (by decide) dX6_toldOf_46
  refine r_case (fun h9 => ?_) (fun h9 => ?_)
  · refine r_tableIn (pc := 3) X 3 h9 (by decide) dX6_toldOf_3 (by decide) rfl (tgt := 47) (by decide) ?_
    refine r_aload_n (pc := 47) X 0 dX6_toldOf_47 rfl rfl ?_
    refine r_get (pc := 48) (v := vI (m 4 0)) X 35 4 inX6 rfl rfl (by decide) tf_X6_132 rfl dX6_toldOf_48 ?_
    exact r_iret (pc := 51) X rfl rfl (by decide) dX6_toldOf_51
  refine r_case (fun h10 => ?_) (fun h10 => ?_)
  · refine r_tableIn (pc := 3) X 4 h10 (by decide) dX6_toldOf_3 (by decide) rfl (tgt := 52) (by decide) ?_
    refine r_aload_n (pc := 52) X 0 dX6_toldOf_52 rfl rfl ?_
    refine r_get (pc := 53) (v := vI (m 8 0)) X 35 8 inX6 rfl rfl (by decide) tf_X6_144 rfl dX6_toldOf_53 ?_
    exact r_iret (pc := 56) X rfl rfl (by decide) dX6_toldOf_56
  refine r_case (fun h11 => ?_) (fun h11 => ?_)
  · refine r_tableIn (pc := 3) X 5 h11 (by decide) dX6_toldOf_3 (by decide) rfl (tgt := 57) (by decide) ?_
    refine r_aload_n (pc := 57) X 0 dX6_toldOf_57 rfl rfl ?_
    refine r_get (pc := 58) (v := vI (m 6 0)) X 35 6 inX6 rfl rfl (by decide) tf_X6_198 rfl dX6_toldOf_58 ?_
    exact r_iret (pc := 61) X rfl rfl (by decide) dX6_toldOf_61
  refine r_tableOut (pc := 3) X h1 dX6_toldOf_3 (by omega) (tgt := 62) (by decide) ?_
  refine r_iconst (pc := 62) X 0 dX6_toldOf_62 (by decide) ?_
  refine r_istore_n (pc := 63) (lv' := [(0, .ref (kB K + 35)), (1, vI x1), (2, vI 0), (3, vI 0)]) X [1, 2, 3, 0] dX6_toldOf_63 rfl (by decide) rfl ?_
  refine r_sub [0, 2, 3] rfl ?_
  refine t_X6_toldOf_L64 N lt b c ms rd m P   K X _ ?_ N 0 0
  intro x2_64
  refine r_iload_n (pc := 95) X 0 dX6_toldOf_95 rfl rfl ?_
  exact r_iret (pc := 96) X rfl rfl (by decide) dX6_toldOf_96
theorem c_X6_toldOf (N : Nat) (lt b c ms rd m : Bd) (P : PL) (x1 : Int) (l : Launch) (D : va_G) (E : ET) (a : Int) (ha : f_X6_toldOf N m x1 = some a) : Ct l yX6_toldOf (Cond.code yX6_toldOf cX6_toldOf 4 (some .int) :: lw_g) ({ frames := 0, cells := 0, slots := 0, locals := 0 } : Room) D E [.ref (E.2.2.2 + 35), vI x1] (Zw E lt b c ms rd m P) (Zw E lt b c ms rd m P) (some (vI a)) :=
  ct_of (av := fun E => [.ref (E.2.2.2 + 35), vI x1]) (W0 := fun E => Zw E lt b c ms rd m P) (W1 := fun E (a : Int) => Zw E lt b c ms rd m P) (rw := fun E a => some (vI a)) (by decide) rfl (fun E => Zw_d E lt b c ms rd m P) (fun E => by simp [lg_sl, z_cat, z_catR, z_catI, z_catL]) (fun K X => r_lv (by simp [lv_args, z_cat, z_catR, z_catI, z_catL]) (t_X6_toldOf N lt b c ms rd m P x1 K X)) l D E a ha
abbrev Q_X6_told (K : KT) (lt b c ms rd m : Bd) (P : PL) : (Int × Bd) → State → Prop := Qm K ({ frames := 1, cells := 0, slots := 0, locals := 23 } : Room) (fun a : Int × Bd => Zw (kE K) lt b c ms rd a.2 P) (fun a => some (vI a.1))
set_option maxRecDepth 100000 in
set_option maxHeartbeats 4000000 in
theorem t_X6_told (N : Nat) (lt b c ms rd m : Bd) (P : PL) (x1 : Int) (K : KT) (X : Kok K cX6_told yX6_told.cls lw_g ({ frames := 1, cells := 0, slots := 0, locals := 23 } : Room) (some .int) 2) : Rn K (Q_X6_told K lt b c ms rd m P) 0 0 (f_X6_told N m x1) 0 [(0, .ref (kB K + 35)), (1, vI x1)] [] (Zw (kE K) lt b c ms rd m P) := by
  unfold f_X6_told
  refine r_iload_n (pc := 0) X 1 dX6_told_0 rfl rfl ?_
  refine r_iconst (pc := 1) X 0 dX6_told_1 (by decide) ?_
  refine r_bipush (pc := 2) X 6 dX6_told_2 (by decide) ?_
  refine r_callS (pc := 4) (As := [vI x1, vI 0, vI 6]) (rest := []) (W' := fun q4_1 => (Zw (kE K) lt b c ms rd m P)) (rv := fun q4_1 => some (vI q4_1)) X dX6_told_4 rfl (fun a ha => c_X6_in N lt b c ms rd m P x1 0 6 K.1.2.1 K.2.2.1.1 (kE K) a ha) (fun a => Zw_d _ _ _ _ _ _ _ _) gd_X6_86 rfl (n := 3) (by decide) rfl (by decide) (Nat.zero_le _) (fun q4_1 eq4_1 => ?_)
  show Rn K _ 0 0 _ 7 [(0, .ref (kB K + 35)), (1, vI x1)] [vI q4_1] (Zw (kE K) lt b c ms rd m P)
  refine r_ck1 (fun h2 => ?_)
  refine r_ifeq (pc := 7) X h2 dX6_told_7 (tgt := 18) (by decide) (fun h3 => ?_) (fun h3 => ?_)
  · refine r_aload_n (pc := 18) X 0 dX6_told_18 rfl rfl ?_
    refine r_bipush (pc := 19) X (-2) dX6_told_19 (by decide) ?_
    refine r_callV (pc := 21) (q0 := 35) (ci := 6) (As := [vI (-2)]) (rest := []) (W' := fun q21_4 => (Zw (kE K) lt b c ms rd q21_4.2 P)) (rv := fun q21_4 => some (vI q21_4.1)) X dX6_told_21 rfl (fun a ha => c_X6_refuses N lt b c ms rd m P (-2) K.1.2.1 K.2.2.1.1 (kE K) a ha) (fun a => Zw_d _ _ _ _ _ _ _ _) gd_X6_138 rfl (n := 1) (by decide) rfl (by decide) rfl rfl rfl (Nat.zero_le _) (fun q21_4 eq21_4 => ?_)
    show Rn K _ 0 0 _ 24 [(0, .ref (kB K + 35)), (1, vI x1)] [vI q21_4.1] (Zw (kE K) lt b c ms rd q21_4.2 P)
    exact r_iret (pc := 24) X rfl rfl (by decide) dX6_told_24
  · refine r_aload_n (pc := 10) X 0 dX6_told_10 rfl rfl ?_
    refine r_iload_n (pc := 11) X 1 dX6_told_11 rfl rfl ?_
    refine r_callV (pc := 12) (q0 := 35) (ci := 6) (As := [vI x1]) (rest := []) (W' := fun q12_5 => (Zw (kE K) lt b c ms rd m P)) (rv := fun q12_5 => some (vI q12_5)) X dX6_told_12 rfl (fun a ha => c_X6_toldOf N lt b c ms rd m P x1 K.1.2.1 K.2.2.1.1 (kE K) a ha) (fun a => Zw_d _ _ _ _ _ _ _ _) gd_X6_262 rfl (n := 1) (by decide) rfl (by decide) rfl rfl rfl (Nat.zero_le _) (fun q12_5 eq12_5 => ?_)
    show Rn K _ 0 0 _ 15 [(0, .ref (kB K + 35)), (1, vI x1)] [vI q12_5] (Zw (kE K) lt b c ms rd m P)
    refine r_goto (pc := 15) X dX6_told_15 (tgt := 24) (by decide) ?_
    exact r_iret (pc := 24) X rfl rfl (by decide) dX6_told_24
theorem c_X6_told (N : Nat) (lt b c ms rd m : Bd) (P : PL) (x1 : Int) (l : Launch) (D : va_G) (E : ET) (a : Int × Bd) (ha : f_X6_told N m x1 = some a) : Ct l yX6_told (Cond.code yX6_told cX6_told 2 (some .int) :: lw_g) ({ frames := 1, cells := 0, slots := 0, locals := 23 } : Room) D E [.ref (E.2.2.2 + 35), vI x1] (Zw E lt b c ms rd m P) (Zw E lt b c ms rd a.2 P) (some (vI a.1)) :=
  ct_of (av := fun E => [.ref (E.2.2.2 + 35), vI x1]) (W0 := fun E => Zw E lt b c ms rd m P) (W1 := fun E (a : Int × Bd) => Zw E lt b c ms rd a.2 P) (rw := fun E a => some (vI a.1)) (by decide) rfl (fun E => Zw_d E lt b c ms rd m P) (fun E => by simp [lg_sl, z_cat, z_catR, z_catI, z_catL]) (fun K X => r_lv (by simp [lv_args, z_cat, z_catR, z_catI, z_catL]) (t_X6_told N lt b c ms rd m P x1 K X)) l D E a ha
abbrev Q_X6_digest (K : KT) (lt b c ms rd m : Bd) (P : PL) : (Int) → State → Prop := Qm K ({ frames := 2, cells := 0, slots := 0, locals := 48 } : Room) (fun a : Int => Zw (kE K) lt b c ms rd m P) (fun a => some (vL a))
set_option maxRecDepth 100000 in
set_option maxHeartbeats 4000000 in
theorem t_X6_digest_L6 (N : Nat) (lt b c ms rd m : Bd) (P : PL) (K : KT) (X : Kok K cX6_digest yX6_digest.cls lw_g ({ frames := 2, cells := 0, slots := 0, locals := 48 } : Room) (some .long) 4) (k : Int → Option (Int)) (hk : ∀ (x1 : Int), Rn K (Q_X6_digest K lt b c ms rd m P) 0 0 (k x1) 31 [(0, .ref (kB K + 35)), (1, vL x1)] [] (Zw (kE K) lt b c ms rd m P)) : ∀ (n : Nat) (x1 : Int) (x3 : Int), Rn K (Q_X6_digest K lt b c ms rd m P) 0 0 (f_X6_digest_L6 N m k n x1 x3) 6 [(0, .ref (kB K + 35)), (1, vL x1), (3, vI x3)] [] (Zw (kE K) lt b c ms rd m P) := by
  intro n
  induction n with
  | zero =>
    intro x1 x3
    rw [f_X6_digest_L6]
    exact r_none
  | succ n ih =>
    intro x1 x3
    rw [f_X6_digest_L6]
    refine r_iload_n (pc := 6) X 2 dX6_digest_6 rfl rfl ?_
    refine r_bipush (pc := 7) X 7 dX6_digest_7 (by decide) ?_
    refine r_ck1 (fun h1 => ?_)
    refine r_icmp_ge (pc := 9) X h1 (by decide) dX6_digest_9 (tgt := 31) (by decide) (fun h2 => ?_) (fun h2 => ?_)
    · refine r_sub [0, 1] rfl ?_
      exact hk x1
    · refine r_ldc2 (pc := 12) X 31 tk_X6_219 dX6_digest_12 ?_
      refine r_lload_n (pc := 15) X 1 dX6_digest_15 rfl rfl ?_
      refine r_lmul (pc := 16) X dX6_digest_16 ?_
      refine r_aload_n (pc := 17) X 0 dX6_digest_17 rfl rfl ?_
      refine r_iload_n (pc := 18) X 2 dX6_digest_18 rfl rfl ?_
      refine r_callV (pc := 19) (q0 := 35) (ci := 6) (As := [vI x3]) (rest := [vL (31 * x1)]) (W' := fun q19_3 => (Zw (kE K) lt b c ms rd m P)) (rv := fun q19_3 => some (vI q19_3)) X dX6_digest_19 rfl (fun a ha => c_X6_toldOf N lt b c ms rd m P x3 K.1.2.1 K.2.2.1.1 (kE K) a ha) (fun a => Zw_d _ _ _ _ _ _ _ _) gd_X6_262 rfl (n := 1) (by decide) rfl (by decide) rfl rfl rfl (by simp [z_cat, z_catR, z_catI, z_catL]) (fun q19_3 eq19_3 => ?_)
      show Rn K _ 0 0 _ 22 [(0, .ref (kB K + 35)), (1, vL x1), (3, vI x3)] [vI q19_3, vL (31 * x1)] (Zw (kE K) lt b c ms rd m P)
      refine r_ck1 (fun h4 => ?_)
      refine r_i2l (pc := 22) X h4 dX6_digest_22 ?_
      refine r_ladd (pc := 23) X dX6_digest_23 ?_
      refine r_lstore_n (pc := 24) (lv' := [(0, .ref (kB K + 35)), (1, vL ((31 * x1) + q19_3)), (3, vI x3)]) X [1, 0, 2] dX6_digest_24 rfl (by decide) rfl ?_
      refine r_iinc (pc := 25) (lv' := [(0, .ref (kB K + 35)), (1, vL ((31 * x1) + q19_3)), (3, vI (x3 + 1))]) X 2 [1, 2, 0] dX6_digest_25 rfl (by decide) rfl ?_
      refine r_goto (pc := 28) X dX6_digest_28 (tgt := 6) (by decide) ?_
      exact ih ((31 * x1) + q19_3) (x3 + 1)
set_option maxRecDepth 100000 in
set_option maxHeartbeats 4000000 in
theorem t_X6_digest_L33 (N : Nat) (lt b c ms rd m : Bd) (P : PL) (K : KT) (X : Kok K cX6_digest yX6_digest.cls lw_g ({ frames := 2, cells := 0, slots := 0, locals := 48 } : Room) (some .long) 4) (k : Int → Option (Int)) (hk : ∀ (x1 : Int), Rn K (Q_X6_digest K lt b c ms rd m P) 0 0 (k x1) 70 [(1, vL x1)] [] (Zw (kE K) lt b c ms rd m P)) : ∀ (n : Nat) (x1 : Int) (x3 : Int), Rn K (Q_X6_digest K lt b c ms rd m P) 0 0 (f_X6_digest_L33 N m k n x1 x3) 33 [(0, .ref (kB K + 35)), (1, vL x1), (3, vI x3)] [] (Zw (kE K) lt b c ms rd m P) := by
  intro n
  induction n with
  | zero =>
    intro x1 x3
    rw [f_X6_digest_L33]
    exact r_none
  | succ n ih =>
    intro x1 x3
    rw [f_X6_digest_L33]
    refine r_iload_n (pc := 33) X 2 dX6_digest_33 rfl rfl ?_
    refine r_bipush (pc := 34) X 8 dX6_digest_34 (by decide) ?_
    refine r_ck1 (fun h5 => ?_)
    refine r_icmp_ge (pc := 36) X h5 (by decide) dX6_digest_36 (tgt := 70) (by decide) (fun h6 => ?_) (fun h6 => ?_)
    · refine r_sub [1] rfl ?_
      exact hk x1
    · refine r_ldc2 (pc := 39) X 31 tk_X6_219 dX6_digest_39 ?_
      refine r_lload_n (pc := 42) X 1 dX6_digest_42 rfl rfl ?_
      refine r_lmul (pc := 43) X dX6_digest_43 ?_
      refine r_aload_n (pc := 44) X 0 dX6_digest_44 rfl rfl ?_
      refine r_get (pc := 45) (v := .ref (kB K + 36)) X 35 0 inX6 rfl rfl (by decide) tf_X6_7 rfl dX6_digest_45 ?_
      refine r_iload_n (pc := 48) X 2 dX6_digest_48 rfl rfl ?_
      refine r_ckA (fun h7 => ?_)
      refine r_iald (pc := 49) (f := m 0) X 36 h7 zl_8 rfl dX6_digest_49 ?_
      refine r_ck1 (fun h8 => ?_)
      refine r_ifle (pc := 50) X h8 dX6_digest_50 (tgt := 61) (by decide) (fun h9 => ?_) (fun h9 => ?_)
      · refine r_lconst (pc := 61) X 0 dX6_digest_61 (by decide) ?_
        refine r_ladd (pc := 62) X dX6_digest_62 ?_
        refine r_lstore_n (pc := 63) (lv' := [(0, .ref (kB K + 35)), (1, vL ((31 * x1) + 0)), (3, vI x3)]) X [1, 0, 2] dX6_digest_63 rfl (by decide) rfl ?_
        refine r_iinc (pc := 64) (lv' := [(0, .ref (kB K + 35)), (1, vL ((31 * x1) + 0)), (3, vI (x3 + 1))]) X 2 [1, 2, 0] dX6_digest_64 rfl (by decide) rfl ?_
        refine r_goto (pc := 67) X dX6_digest_67 (tgt := 33) (by decide) ?_
        exact ih ((31 * x1) + 0) (x3 + 1)
      · refine r_aload_n (pc := 53) X 0 dX6_digest_53 rfl rfl ?_
        refine r_iload_n (pc := 54) X 2 dX6_digest_54 rfl rfl ?_
        refine r_callV (pc := 55) (q0 := 35) (ci := 6) (As := [vI x3]) (rest := [vL (31 * x1)]) (W' := fun q55_10 => (Zw (kE K) lt b c ms rd m P)) (rv := fun q55_10 => some (vL q55_10)) X dX6_digest_55 rfl (fun a ha => c_X6_codeOf N lt b c ms rd m P x3 K.1.2.1 K.2.2.1.1 (kE K) a ha) (fun a => Zw_d _ _ _ _ _ _ _ _) gd_X6_221 rfl (n := 1) (by decide) rfl (by decide) rfl rfl rfl (by simp [z_cat, z_catR, z_catI, z_catL]) (fun q55_10 eq55_10 => ?_)
        show Rn K _ 0 0 _ 58 [(0, .ref (kB K + 35)), (1, vL x1), (3, vI x3)] [vL q55_10, vL (31 * x1)] (Zw (kE K) lt b c ms rd m P)
        refine r_goto (pc := 58) X dX6_digest_58 (tgt := 62) (by decide) ?_
        refine r_ladd (pc := 62) X dX6_digest_62 ?_
        refine r_lstore_n (pc := 63) (lv' := [(0, .ref (kB K + 35)), (1, vL ((31 * x1) + q55_10)), (3, vI x3)]) X [1, 0, 2] dX6_digest_63 rfl (by decide) rfl ?_
        refine r_iinc (pc := 64) (lv' := [(0, .ref (kB K + 35)), (1, vL ((31 * x1) + q55_10)), (3, vI (x3 + 1))]) X 2 [1, 2, 0] dX6_digest_64 rfl (by decide) rfl ?_
        refine r_goto (pc := 67) X dX6_digest_67 (tgt := 33) (by decide) ?_
        exact ih ((31 * x1) + q55_10) (x3 + 1)
set_option maxRecDepth 100000 in
set_option maxHeartbeats 4000000 in
theorem t_X6_digest (N : Nat) (lt b c ms rd m : Bd) (P : PL) (K : KT) (X : Kok K cX6_digest yX6_digest.cls lw_g ({ frames := 2, cells := 0, slots := 0, locals := 48 } : Room) (some .long) 4) : Rn K (Q_X6_digest K lt b c ms rd m P) 0 0 (f_X6_digest N m) 0 [(0, .ref (kB K + 35))] [] (Zw (kE K) lt b c ms rd m P) := by
  unfold f_X6_digest
  refine r_ldc2 (pc := 0) X 1901 tk_X6_265 dX6_digest_0 ?_
  refine r_lstore_n (pc := 3) (lv' := [(0, .ref (kB K + 35)), (1, vL 1901)]) X [1, 0] dX6_digest_3 rfl (by decide) rfl ?_
  refine r_iconst (pc := 4) X 0 dX6_digest_4 (by decide) ?_
  refine r_istore_n (pc := 5) (lv' := [(0, .ref (kB K + 35)), (1, vL 1901), (3, vI 0)]) X [1, 2, 0] dX6_digest_5 rfl (by decide) rfl ?_
  refine t_X6_digest_L6 N lt b c ms rd m P   K X _ ?_ N 1901 0
  intro x1_6
  refine r_iconst (pc := 31) X 0 dX6_digest_31 (by decide) ?_
  refine r_istore_n (pc := 32) (lv' := [(0, .ref (kB K + 35)), (1, vL x1_6), (3, vI 0)]) X [1, 2, 0] dX6_digest_32 rfl (by decide) rfl ?_
  refine t_X6_digest_L33 N lt b c ms rd m P   K X _ ?_ N x1_6 0
  intro x1_33
  refine r_lload_n (pc := 70) X 0 dX6_digest_70 rfl rfl ?_
  exact r_lret (pc := 71) X rfl rfl (by decide) dX6_digest_71
theorem c_X6_digest (N : Nat) (lt b c ms rd m : Bd) (P : PL) (l : Launch) (D : va_G) (E : ET) (a : Int) (ha : f_X6_digest N m = some a) : Ct l yX6_digest (Cond.code yX6_digest cX6_digest 4 (some .long) :: lw_g) ({ frames := 2, cells := 0, slots := 0, locals := 48 } : Room) D E [.ref (E.2.2.2 + 35)] (Zw E lt b c ms rd m P) (Zw E lt b c ms rd m P) (some (vL a)) :=
  ct_of (av := fun E => [.ref (E.2.2.2 + 35)]) (W0 := fun E => Zw E lt b c ms rd m P) (W1 := fun E (a : Int) => Zw E lt b c ms rd m P) (rw := fun E a => some (vL a)) (by decide) rfl (fun E => Zw_d E lt b c ms rd m P) (fun E => by simp [lg_sl, z_cat, z_catR, z_catI, z_catL]) (fun K X => r_lv (by simp [lv_args, z_cat, z_catR, z_catI, z_catL]) (t_X6_digest N lt b c ms rd m P  K X)) l D E a ha
