abbrev Q_X3_alikeAt (K : KT) (lt b c ms rd m : Bd) (P : PL) : (Int × Bd) → State → Prop := Qm K ({ frames := 3, cells := 0, slots := 0, locals := 63 } : Room) (fun a : Int × Bd => Zw (kE K) lt b c a.2 rd m P) (fun a => some (vI a.1))
set_option maxRecDepth 100000 in
set_option maxHeartbeats 4000000 in
theorem t_X3_alikeAt_L87 (N : Nat) (lt b c ms rd m : Bd) (P : PL) (x1 x3 x6 x7 x8 x9 : Int) (K : KT) (X : Kok K cX3_alikeAt yX3_alikeAt.cls lw_g ({ frames := 3, cells := 0, slots := 0, locals := 63 } : Room) (some .boolean) 13) (k : Int → Bd → Option (Int × Bd)) (hk : ∀ (x5 : Int) (ms1 : Bd), Rn K (Q_X3_alikeAt K lt b c ms rd m P) 0 0 (k x5 ms1) 176 [(0, .ref (kB K + 19)), (1, vG (kB K) x1), (3, vG (kB K) x3), (5, vI x5), (6, vI x6)] [] (Zw (kE K) lt b c ms1 rd m P)) : ∀ (n : Nat) (x5 : Int) (x10 : Int) (ms1 : Bd), Rn K (Q_X3_alikeAt K lt b c ms rd m P) 0 0 (f_X3_alikeAt_L87 P x1 x3 x6 x7 x8 x9 k n x5 x10 ms1) 87 [(0, .ref (kB K + 19)), (1, vG (kB K) x1), (3, vG (kB K) x3), (5, vI x5), (6, vI x6), (7, vI x7), (8, vI x8), (9, vI x9), (10, vI x10)] [] (Zw (kE K) lt b c ms1 rd m P) := by
  intro n
  induction n with
  | zero =>
    intro x5 x10 ms1
    rw [f_X3_alikeAt_L87]
    exact r_none
  | succ n ih =>
    intro x5 x10 ms1
    rw [f_X3_alikeAt_L87]
    refine r_iload (pc := 87) X 8 dX3_alikeAt_87 rfl ?_
    refine r_iload (pc := 89) X 7 dX3_alikeAt_89 rfl ?_
    refine r_ck1 (fun h17 => ?_)
    refine r_ck1 (fun h18 => ?_)
    refine r_icmp_ge (pc := 91) X h17 h18 dX3_alikeAt_91 (tgt := 176) (by decide) (fun h19 => ?_) (fun h19 => ?_)
    · refine r_sub [0, 1, 2, 3, 4] rfl ?_
      exact hk x5 ms1
    · refine r_gload_n (pc := 94) X 2 dX3_alikeAt_94 rfl rfl ?_
      refine r_iload (pc := 95) X 5 dX3_alikeAt_95 rfl ?_
      refine r_iload (pc := 97) X 8 dX3_alikeAt_97 rfl ?_
      refine r_ckG (fun h20 => ?_)
      refine r_rf2 h20.1 ?_
      refine r_callV (pc := 99) (q0 := (62 + 2 * (x3).toNat)) (ci := 2) (As := [vI x7, vI x10]) (rest := []) (W' := fun q99_21 => (Zw (kE K) lt b c ms1 rd m P)) (rv := fun q99_21 => some (vI q99_21)) X dX3_alikeAt_99 rfl (fun a ha => c_X2_partAt N lt b c ms1 rd m P x3 h20 x7 x10 K.1.2.1 K.2.2.1.1 (kE K) a ha) (fun a => Zw_d _ _ _ _ _ _ _ _) gd_X3_50 rfl (n := 2) (by decide) rfl (by decide) rfl rfl (zg_gobj h20) (Nat.zero_le _) (fun q99_21 eq99_21 => ?_)
      show Rn K _ 0 0 _ 102 [(0, .ref (kB K + 19)), (1, vG (kB K) x1), (3, vG (kB K) x3), (5, vI x5), (6, vI x6), (7, vI x7), (8, vI x8), (9, vI x9), (10, vI x10)] [vI q99_21] (Zw (kE K) lt b c ms1 rd m P)
      refine r_istore (pc := 102) (lv' := [(0, .ref (kB K + 19)), (1, vG (kB K) x1), (3, vG (kB K) x3), (5, vI x5), (6, vI x6), (7, vI x7), (8, vI x8), (9, vI x9), (10, vI x10), (11, vI q99_21)]) X [1, 2, 3, 4, 5, 6, 7, 8, 9, 0] dX3_alikeAt_102 (by decide) rfl ?_
      refine r_gload_n (pc := 104) X 1 dX3_alikeAt_104 rfl rfl ?_
      refine r_iload (pc := 105) X 6 dX3_alikeAt_105 rfl ?_
      refine r_iload (pc := 107) X 8 dX3_alikeAt_107 rfl ?_
      refine r_ckG (fun h22 => ?_)
      refine r_rf2 h22.1 ?_
      refine r_callV (pc := 109) (q0 := (62 + 2 * (x1).toNat)) (ci := 2) (As := [vI x8, vI x10]) (rest := []) (W' := fun q109_23 => (Zw (kE K) lt b c ms1 rd m P)) (rv := fun q109_23 => some (vI q109_23)) X dX3_alikeAt_109 rfl (fun a ha => c_X2_partAt N lt b c ms1 rd m P x1 h22 x8 x10 K.1.2.1 K.2.2.1.1 (kE K) a ha) (fun a => Zw_d _ _ _ _ _ _ _ _) gd_X3_50 rfl (n := 2) (by decide) rfl (by decide) rfl rfl (zg_gobj h22) (Nat.zero_le _) (fun q109_23 eq109_23 => ?_)
      show Rn K _ 0 0 _ 112 [(0, .ref (kB K + 19)), (1, vG (kB K) x1), (3, vG (kB K) x3), (5, vI x5), (6, vI x6), (7, vI x7), (8, vI x8), (9, vI x9), (10, vI x10), (11, vI q99_21)] [vI q109_23] (Zw (kE K) lt b c ms1 rd m P)
      refine r_istore (pc := 112) (lv' := [(0, .ref (kB K + 19)), (1, vG (kB K) x1), (3, vG (kB K) x3), (5, vI x5), (6, vI x6), (7, vI x7), (8, vI x8), (9, vI x9), (10, vI x10), (11, vI q99_21), (12, vI q109_23)]) X [1, 2, 3, 4, 5, 6, 7, 8, 9, 10, 0] dX3_alikeAt_112 (by decide) rfl ?_
      refine r_aload_n (pc := 114) X 0 dX3_alikeAt_114 rfl rfl ?_
      refine r_get (pc := 115) (v := .ref (kB K + 21)) X 19 1 inX3 rfl rfl (by decide) tf_X3_15 rfl dX3_alikeAt_115 ?_
      refine r_iload (pc := 118) X 9 dX3_alikeAt_118 rfl ?_
      refine r_ckA (fun h24 => ?_)
      refine r_iald (pc := 120) (f := ms1 1) X 21 h24 zl_40 rfl dX3_alikeAt_120 ?_
      refine r_iconst (pc := 121) X (-1) dX3_alikeAt_121 (by decide) ?_
      refine r_jn (J := fun j156 => Rn K (Q_X3_alikeAt K lt b c ms rd m P) 0 0 j156 156 [(0, .ref (kB K + 19)), (1, vG (kB K) x1), (3, vG (kB K) x3), (5, vI x5), (6, vI x6), (7, vI x7), (8, vI x8), (9, vI x9), (10, vI x10), (11, vI q99_21), (12, vI q109_23)] [] (Zw (kE K) lt b c ms1 rd m P)) ?_ (fun j156 hj156 => ?_)
      · skip
        refine r_aload_n (pc := 156) X 0 dX3_alikeAt_156 rfl rfl ?_
        refine r_get (pc := 157) (v := .ref (kB K + 21)) X 19 1 inX3 rfl rfl (by decide) tf_X3_15 rfl dX3_alikeAt_157 ?_
        refine r_iload (pc := 160) X 9 dX3_alikeAt_160 rfl ?_
        refine r_iald (pc := 162) (f := ms1 1) X 21 h24 zl_40 rfl dX3_alikeAt_162 ?_
        refine r_iload (pc := 163) X 10 dX3_alikeAt_163 rfl ?_
        refine r_ck1 (fun h25 => ?_)
        refine r_ck1 (fun h26 => ?_)
        refine r_icmp_eq (pc := 165) X h25 h26 dX3_alikeAt_165 (tgt := 170) (by decide) (fun h27 => ?_) (fun h27 => ?_)
        · refine r_iinc (pc := 170) (lv' := [(0, .ref (kB K + 19)), (1, vG (kB K) x1), (3, vG (kB K) x3), (5, vI x5), (6, vI x6), (7, vI x7), (8, vI x8), (9, vI x9), (10, vI (x10 + 1)), (11, vI q99_21), (12, vI q109_23)]) X 8 [1, 2, 3, 4, 5, 6, 7, 8, 0, 9, 10] dX3_alikeAt_170 rfl (by decide) rfl ?_
          refine r_goto (pc := 173) X dX3_alikeAt_173 (tgt := 87) (by decide) ?_
          refine r_sub [0, 1, 2, 3, 4, 5, 6, 7, 8] rfl ?_
          exact ih x5 (x10 + 1) ms1
        · refine r_iconst (pc := 168) X 0 dX3_alikeAt_168 (by decide) ?_
          exact r_zret (pc := 169) X (by decide) rfl rfl (by decide) dX3_alikeAt_169
      refine r_ck1 (fun h28 => ?_)
      refine r_icmp_ne (pc := 122) X h28 (by decide) dX3_alikeAt_122 (tgt := 156) (by decide) (fun h29 => ?_) (fun h29 => ?_)
      · exact hj156
      · refine r_iload (pc := 125) X 3 dX3_alikeAt_125 rfl ?_
        refine r_bipush (pc := 127) X 40 dX3_alikeAt_127 (by decide) ?_
        refine r_ck1 (fun h30 => ?_)
        refine r_icmp_ge (pc := 129) X h30 (by decide) dX3_alikeAt_129 (tgt := 156) (by decide) (fun h31 => ?_) (fun h31 => ?_)
        · exact hj156
        · refine r_aload_n (pc := 132) X 0 dX3_alikeAt_132 rfl rfl ?_
          refine r_get (pc := 133) (v := .ref (kB K + 21)) X 19 1 inX3 rfl rfl (by decide) tf_X3_15 rfl dX3_alikeAt_133 ?_
          refine r_iload (pc := 136) X 9 dX3_alikeAt_136 rfl ?_
          refine r_iload (pc := 138) X 10 dX3_alikeAt_138 rfl ?_
          refine r_iast (pc := 140) (f := ms1 1) (ws' := (Zw (kE K) lt b c (bS ms1 1 (aS (ms1 1) q99_21 q109_23)) rd m P)) X 21 h24 zl_40 rfl rfl dX3_alikeAt_140 ?_
          refine r_aload_n (pc := 141) X 0 dX3_alikeAt_141 rfl rfl ?_
          refine r_get (pc := 142) (v := .ref (kB K + 22)) X 19 2 inX3 rfl rfl (by decide) tf_X3_18 rfl dX3_alikeAt_142 ?_
          refine r_iload (pc := 145) X 3 dX3_alikeAt_145 rfl ?_
          refine r_iload (pc := 147) X 9 dX3_alikeAt_147 rfl ?_
          refine r_ckA (fun h32 => ?_)
          refine r_iast (pc := 149) (f := ms1 2) (ws' := (Zw (kE K) lt b c (bS (bS ms1 1 (aS (ms1 1) q99_21 q109_23)) 2 (aS (ms1 2) x5 q99_21)) rd m P)) X 22 h32 zl_40 rfl rfl dX3_alikeAt_149 ?_
          refine r_iinc (pc := 150) (lv' := [(0, .ref (kB K + 19)), (1, vG (kB K) x1), (3, vG (kB K) x3), (5, vI (x5 + 1)), (6, vI x6), (7, vI x7), (8, vI x8), (9, vI x9), (10, vI x10), (11, vI q99_21), (12, vI q109_23)]) X 3 [1, 2, 3, 0, 4, 5, 6, 7, 8, 9, 10] dX3_alikeAt_150 rfl (by decide) rfl ?_
          refine r_goto (pc := 153) X dX3_alikeAt_153 (tgt := 170) (by decide) ?_
          refine r_iinc (pc := 170) (lv' := [(0, .ref (kB K + 19)), (1, vG (kB K) x1), (3, vG (kB K) x3), (5, vI (x5 + 1)), (6, vI x6), (7, vI x7), (8, vI x8), (9, vI x9), (10, vI (x10 + 1)), (11, vI q99_21), (12, vI q109_23)]) X 8 [1, 2, 3, 4, 5, 6, 7, 8, 0, 9, 10] dX3_alikeAt_170 rfl (by decide) rfl ?_
          refine r_goto (pc := 173) X dX3_alikeAt_173 (tgt := 87) (by decide) ?_
          refine r_sub [0, 1, 2, 3, 4, 5, 6, 7, 8] rfl ?_
          exact ih (x5 + 1) (x10 + 1) (bS (bS ms1 1 (aS (ms1 1) q99_21 q109_23)) 2 (aS (ms1 2) x5 q99_21))
set_option maxRecDepth 100000 in
set_option maxHeartbeats 4000000 in
theorem t_X3_alikeAt_L34 (N : Nat) (lt b c ms rd m : Bd) (P : PL) (x1 x3 : Int) (K : KT) (X : Kok K cX3_alikeAt yX3_alikeAt.cls lw_g ({ frames := 3, cells := 0, slots := 0, locals := 63 } : Room) (some .boolean) 13) (k : Bd → Option (Int × Bd)) (hk : ∀ (ms1 : Bd), Rn K (Q_X3_alikeAt K lt b c ms rd m P) 0 0 (k ms1) 182 [] [] (Zw (kE K) lt b c ms1 rd m P)) : ∀ (n : Nat) (x5 : Int) (x6 : Int) (ms1 : Bd), Rn K (Q_X3_alikeAt K lt b c ms rd m P) 0 0 (f_X3_alikeAt_L34 N P x1 x3 k n x5 x6 ms1) 34 [(0, .ref (kB K + 19)), (1, vG (kB K) x1), (3, vG (kB K) x3), (5, vI x5), (6, vI x6)] [] (Zw (kE K) lt b c ms1 rd m P) := by
  intro n
  induction n with
  | zero =>
    intro x5 x6 ms1
    rw [f_X3_alikeAt_L34]
    exact r_none
  | succ n ih =>
    intro x5 x6 ms1
    rw [f_X3_alikeAt_L34]
    refine r_iload (pc := 34) X 4 dX3_alikeAt_34 rfl ?_
    refine r_iload (pc := 36) X 3 dX3_alikeAt_36 rfl ?_
    refine r_ck1 (fun h4 => ?_)
    refine r_ck1 (fun h5 => ?_)
    refine r_icmp_ge (pc := 38) X h4 h5 dX3_alikeAt_38 (tgt := 182) (by decide) (fun h6 => ?_) (fun h6 => ?_)
    · refine r_sub [] rfl ?_
      exact hk ms1
    · refine r_aload_n (pc := 41) X 0 dX3_alikeAt_41 rfl rfl ?_
      refine r_get (pc := 42) (v := .ref (kB K + 22)) X 19 2 inX3 rfl rfl (by decide) tf_X3_18 rfl dX3_alikeAt_42 ?_
      refine r_iload (pc := 45) X 4 dX3_alikeAt_45 rfl ?_
      refine r_ckA (fun h7 => ?_)
      refine r_iald (pc := 47) (f := ms1 2) X 22 h7 zl_40 rfl dX3_alikeAt_47 ?_
      refine r_istore (pc := 48) (lv' := [(0, .ref (kB K + 19)), (1, vG (kB K) x1), (3, vG (kB K) x3), (5, vI x5), (6, vI x6), (7, vI (ms1 2 x6))]) X [1, 2, 3, 4, 5, 0] dX3_alikeAt_48 (by decide) rfl ?_
      refine r_aload_n (pc := 50) X 0 dX3_alikeAt_50 rfl rfl ?_
      refine r_get (pc := 51) (v := .ref (kB K + 21)) X 19 1 inX3 rfl rfl (by decide) tf_X3_15 rfl dX3_alikeAt_51 ?_
      refine r_iload (pc := 54) X 5 dX3_alikeAt_54 rfl ?_
      refine r_ckA (fun h8 => ?_)
      refine r_iald (pc := 56) (f := ms1 1) X 21 h8 zl_40 rfl dX3_alikeAt_56 ?_
      refine r_istore (pc := 57) (lv' := [(0, .ref (kB K + 19)), (1, vG (kB K) x1), (3, vG (kB K) x3), (5, vI x5), (6, vI x6), (7, vI (ms1 2 x6)), (8, vI (ms1 1 (ms1 2 x6)))]) X [1, 2, 3, 4, 5, 6, 0] dX3_alikeAt_57 (by decide) rfl ?_
      refine r_gload_n (pc := 59) X 1 dX3_alikeAt_59 rfl rfl ?_
      refine r_iload (pc := 60) X 6 dX3_alikeAt_60 rfl ?_
      refine r_ckG (fun h9 => ?_)
      refine r_rf1 h9.1 ?_
      refine r_callV (pc := 62) (q0 := (62 + 2 * (x1).toNat)) (ci := 2) (As := [vI (ms1 1 (ms1 2 x6))]) (rest := []) (W' := fun q62_10 => (Zw (kE K) lt b c ms1 rd m P)) (rv := fun q62_10 => some (vI q62_10)) X dX3_alikeAt_62 rfl (fun a ha => c_X2_headAt N lt b c ms1 rd m P x1 h9 (ms1 1 (ms1 2 x6)) K.1.2.1 K.2.2.1.1 (kE K) a ha) (fun a => Zw_d _ _ _ _ _ _ _ _) gd_X3_43 rfl (n := 1) (by decide) rfl (by decide) rfl rfl (zg_gobj h9) (Nat.zero_le _) (fun q62_10 eq62_10 => ?_)
      show Rn K _ 0 0 _ 65 [(0, .ref (kB K + 19)), (1, vG (kB K) x1), (3, vG (kB K) x3), (5, vI x5), (6, vI x6), (7, vI (ms1 2 x6)), (8, vI (ms1 1 (ms1 2 x6)))] [vI q62_10] (Zw (kE K) lt b c ms1 rd m P)
      refine r_gload_n (pc := 65) X 2 dX3_alikeAt_65 rfl rfl ?_
      refine r_iload (pc := 66) X 5 dX3_alikeAt_66 rfl ?_
      refine r_ckG (fun h11 => ?_)
      refine r_rf1 h11.1 ?_
      refine r_callV (pc := 68) (q0 := (62 + 2 * (x3).toNat)) (ci := 2) (As := [vI (ms1 2 x6)]) (rest := [vI q62_10]) (W' := fun q68_12 => (Zw (kE K) lt b c ms1 rd m P)) (rv := fun q68_12 => some (vI q68_12)) X dX3_alikeAt_68 rfl (fun a ha => c_X2_headAt N lt b c ms1 rd m P x3 h11 (ms1 2 x6) K.1.2.1 K.2.2.1.1 (kE K) a ha) (fun a => Zw_d _ _ _ _ _ _ _ _) gd_X3_43 rfl (n := 1) (by decide) rfl (by decide) rfl rfl (zg_gobj h11) (by simp [z_cat, z_catR, z_catI, z_catL]) (fun q68_12 eq68_12 => ?_)
      show Rn K _ 0 0 _ 71 [(0, .ref (kB K + 19)), (1, vG (kB K) x1), (3, vG (kB K) x3), (5, vI x5), (6, vI x6), (7, vI (ms1 2 x6)), (8, vI (ms1 1 (ms1 2 x6)))] [vI q68_12, vI q62_10] (Zw (kE K) lt b c ms1 rd m P)
      refine r_ck1 (fun h13 => ?_)
      refine r_ck1 (fun h14 => ?_)
      refine r_icmp_eq (pc := 71) X h13 h14 dX3_alikeAt_71 (tgt := 76) (by decide) (fun h15 => ?_) (fun h15 => ?_)
      · refine r_gload_n (pc := 76) X 2 dX3_alikeAt_76 rfl rfl ?_
        refine r_iload (pc := 77) X 5 dX3_alikeAt_77 rfl ?_
        refine r_rf1 h11.1 ?_
        refine r_callV (pc := 79) (q0 := (62 + 2 * (x3).toNat)) (ci := 2) (As := [vI (ms1 2 x6)]) (rest := []) (W' := fun q79_16 => (Zw (kE K) lt b c ms1 rd m P)) (rv := fun q79_16 => some (vI q79_16)) X dX3_alikeAt_79 rfl (fun a ha => c_X2_partCount N lt b c ms1 rd m P x3 h11 (ms1 2 x6) K.1.2.1 K.2.2.1.1 (kE K) a ha) (fun a => Zw_d _ _ _ _ _ _ _ _) gd_X3_47 rfl (n := 1) (by decide) rfl (by decide) rfl rfl (zg_gobj h11) (Nat.zero_le _) (fun q79_16 eq79_16 => ?_)
        show Rn K _ 0 0 _ 82 [(0, .ref (kB K + 19)), (1, vG (kB K) x1), (3, vG (kB K) x3), (5, vI x5), (6, vI x6), (7, vI (ms1 2 x6)), (8, vI (ms1 1 (ms1 2 x6)))] [vI q79_16] (Zw (kE K) lt b c ms1 rd m P)
        refine r_istore (pc := 82) (lv' := [(0, .ref (kB K + 19)), (1, vG (kB K) x1), (3, vG (kB K) x3), (5, vI x5), (6, vI x6), (7, vI (ms1 2 x6)), (8, vI (ms1 1 (ms1 2 x6))), (9, vI q79_16)]) X [1, 2, 3, 4, 5, 6, 7, 0] dX3_alikeAt_82 (by decide) rfl ?_
        refine r_iconst (pc := 84) X 0 dX3_alikeAt_84 (by decide) ?_
        refine r_istore (pc := 85) (lv' := [(0, .ref (kB K + 19)), (1, vG (kB K) x1), (3, vG (kB K) x3), (5, vI x5), (6, vI x6), (7, vI (ms1 2 x6)), (8, vI (ms1 1 (ms1 2 x6))), (9, vI q79_16), (10, vI 0)]) X [1, 2, 3, 4, 5, 6, 7, 8, 0] dX3_alikeAt_85 (by decide) rfl ?_
        refine t_X3_alikeAt_L87 N lt b c ms rd m P  x1 x3 x6 (ms1 2 x6) (ms1 1 (ms1 2 x6)) q79_16 K X _ ?_ N x5 0 ms1
        intro x5_87 ms_87
        refine r_iinc (pc := 176) (lv' := [(0, .ref (kB K + 19)), (1, vG (kB K) x1), (3, vG (kB K) x3), (5, vI x5_87), (6, vI (x6 + 1))]) X 4 [1, 2, 3, 4, 0] dX3_alikeAt_176 rfl (by decide) rfl ?_
        refine r_goto (pc := 179) X dX3_alikeAt_179 (tgt := 34) (by decide) ?_
        exact ih x5_87 (x6 + 1) ms_87
      · refine r_iconst (pc := 74) X 0 dX3_alikeAt_74 (by decide) ?_
        exact r_zret (pc := 75) X (by decide) rfl rfl (by decide) dX3_alikeAt_75
set_option maxRecDepth 100000 in
set_option maxHeartbeats 4000000 in
theorem t_X3_alikeAt (N : Nat) (lt b c ms rd m : Bd) (P : PL) (x1 x2 x3 x4 : Int) (K : KT) (X : Kok K cX3_alikeAt yX3_alikeAt.cls lw_g ({ frames := 3, cells := 0, slots := 0, locals := 63 } : Room) (some .boolean) 13) : Rn K (Q_X3_alikeAt K lt b c ms rd m P) 0 0 (f_X3_alikeAt N ms P x1 x2 x3 x4) 0 [(0, .ref (kB K + 19)), (1, vG (kB K) x1), (2, vI x2), (3, vG (kB K) x3), (4, vI x4)] [] (Zw (kE K) lt b c ms rd m P) := by
  unfold f_X3_alikeAt
  refine r_aload_n (pc := 0) X 0 dX3_alikeAt_0 rfl rfl ?_
  refine r_get (pc := 1) (v := .ref (kB K + 21)) X 19 1 inX3 rfl rfl (by decide) tf_X3_15 rfl dX3_alikeAt_1 ?_
  refine r_gload_n (pc := 4) X 3 dX3_alikeAt_4 rfl rfl ?_
  refine r_ckG (fun h1 => ?_)
  refine r_rf0 h1.1 ?_
  refine r_get (pc := 5) (v := vI ((gP P x3).1)) X (62 + 2 * (x3).toNat) 0 inX2 (zg_gobj h1) rfl (by decide) tf_X3_25 rfl dX3_alikeAt_5 ?_
  refine r_iconst (pc := 8) X (-1) dX3_alikeAt_8 (by decide) ?_
  refine r_callN (pc := 9) (As := [.ref (kB K + 21), vI ((gP P x3).1), vI (-1)]) (rest := []) (W' := fun q9_2 => (Zw (kE K) lt b c (bS ms 1 q9_2) rd m P)) (rv := fun _ => none) X dX3_alikeAt_9 rfl (fun a ha => c_X5_fillRow N (fun F0 => (Zw (kE K) lt b c (bS ms 1 F0) rd m P)) 21 (kB K + 21) 40 40 (ms 1) ((gP P x3).1) (-1) K.1.2.1 K.2.2.1.1 (kE K) zl_40 (fun F0 => Zw_d _ _ _ _ _ _ _ _) (fun _ => rfl) (fun _ _ => rfl) a ha) (fun a => Zw_d _ _ _ _ _ _ _ _) (gd_c tc_X5_fillRow) (by decide) tt_X5_fillRow tn_RX5 rfl (n := 3) (by decide) rfl (by decide) (Nat.zero_le _) (fun q9_2 eq9_2 => ?_)
  show Rn K _ 0 0 _ 12 [(0, .ref (kB K + 19)), (1, vG (kB K) x1), (2, vI x2), (3, vG (kB K) x3), (4, vI x4)] [] (Zw (kE K) lt b c (bS ms 1 q9_2) rd m P)
  refine r_aload_n (pc := 12) X 0 dX3_alikeAt_12 rfl rfl ?_
  refine r_get (pc := 13) (v := .ref (kB K + 21)) X 19 1 inX3 rfl rfl (by decide) tf_X3_15 rfl dX3_alikeAt_13 ?_
  refine r_iload (pc := 16) X 4 dX3_alikeAt_16 rfl ?_
  refine r_iload_n (pc := 18) X 2 dX3_alikeAt_18 rfl rfl ?_
  refine r_ckA (fun h3 => ?_)
  refine r_iast (pc := 19) (f := q9_2) (ws' := (Zw (kE K) lt b c (bS ms 1 (aS q9_2 x4 x2)) rd m P)) X 21 h3 zl_40 rfl rfl dX3_alikeAt_19 ?_
  refine r_aload_n (pc := 20) X 0 dX3_alikeAt_20 rfl rfl ?_
  refine r_get (pc := 21) (v := .ref (kB K + 22)) X 19 2 inX3 rfl rfl (by decide) tf_X3_18 rfl dX3_alikeAt_21 ?_
  refine r_iconst (pc := 24) X 0 dX3_alikeAt_24 (by decide) ?_
  refine r_iload (pc := 25) X 4 dX3_alikeAt_25 rfl ?_
  refine r_iast (pc := 27) (f := ms 2) (ws' := (Zw (kE K) lt b c (bS (bS ms 1 (aS q9_2 x4 x2)) 2 (aS (ms 2) 0 x4)) rd m P)) X 22 (by decide) zl_40 rfl rfl dX3_alikeAt_27 ?_
  refine r_iconst (pc := 28) X 1 dX3_alikeAt_28 (by decide) ?_
  refine r_istore (pc := 29) (lv' := [(0, .ref (kB K + 19)), (1, vG (kB K) x1), (2, vI x2), (3, vG (kB K) x3), (4, vI x4), (5, vI 1)]) X [1, 2, 3, 4, 5, 0] dX3_alikeAt_29 (by decide) rfl ?_
  refine r_iconst (pc := 31) X 0 dX3_alikeAt_31 (by decide) ?_
  refine r_istore (pc := 32) (lv' := [(0, .ref (kB K + 19)), (1, vG (kB K) x1), (2, vI x2), (3, vG (kB K) x3), (4, vI x4), (5, vI 1), (6, vI 0)]) X [1, 2, 3, 4, 5, 6, 0] dX3_alikeAt_32 (by decide) rfl ?_
  refine r_sub [0, 1, 3, 5, 6] rfl ?_
  refine t_X3_alikeAt_L34 N lt b c ms rd m P  x1 x3 K X _ ?_ N 1 0 (bS (bS ms 1 (aS q9_2 x4 x2)) 2 (aS (ms 2) 0 x4))
  intro ms_34
  refine r_iconst (pc := 182) X 1 dX3_alikeAt_182 (by decide) ?_
  exact r_zret (pc := 183) X (by decide) rfl rfl (by decide) dX3_alikeAt_183
theorem c_X3_alikeAt (N : Nat) (lt b c ms rd m : Bd) (P : PL) (x1 x2 x3 x4 : Int) (l : Launch) (D : va_G) (E : ET) (a : Int × Bd) (ha : f_X3_alikeAt N ms P x1 x2 x3 x4 = some a) : Ct l yX3_alikeAt (Cond.code yX3_alikeAt cX3_alikeAt 13 (some .boolean) :: lw_g) ({ frames := 3, cells := 0, slots := 0, locals := 63 } : Room) D E [.ref (E.2.2.2 + 19), vG (E.2.2.2) x1, vI x2, vG (E.2.2.2) x3, vI x4] (Zw E lt b c ms rd m P) (Zw E lt b c a.2 rd m P) (some (vI a.1)) :=
  ct_of (av := fun E => [.ref (E.2.2.2 + 19), vG (E.2.2.2) x1, vI x2, vG (E.2.2.2) x3, vI x4]) (W0 := fun E => Zw E lt b c ms rd m P) (W1 := fun E (a : Int × Bd) => Zw E lt b c a.2 rd m P) (rw := fun E a => some (vI a.1)) (by decide) rfl (fun E => Zw_d E lt b c ms rd m P) (fun E => by simp [lg_sl, z_cat, z_catR, z_catI, z_catL]) (fun K X => r_lv (by simp [lv_args, z_cat, z_catR, z_catI, z_catL]) (t_X3_alikeAt N lt b c ms rd m P x1 x2 x3 x4 K X)) l D E a ha
abbrev Q_X3_isAmong (K : KT) (lt b c ms rd m : Bd) (P : PL) : (Int × Bd) → State → Prop := Qm K ({ frames := 4, cells := 0, slots := 0, locals := 95 } : Room) (fun a : Int × Bd => Zw (kE K) lt b c a.2 rd m P) (fun a => some (vI a.1))
set_option maxRecDepth 100000 in
set_option maxHeartbeats 4000000 in
theorem t_X3_isAmong_L3 (N : Nat) (lt b c ms rd m : Bd) (P : PL) (x1 x2 x3 : Int) (K : KT) (X : Kok K cX3_isAmong yX3_isAmong.cls lw_g ({ frames := 4, cells := 0, slots := 0, locals := 95 } : Room) (some .boolean) 5) (k : Bd → Option (Int × Bd)) (hk : ∀ (ms1 : Bd), Rn K (Q_X3_isAmong K lt b c ms rd m P) 0 0 (k ms1) 32 [] [] (Zw (kE K) lt b c ms1 rd m P)) : ∀ (n : Nat) (x4 : Int) (ms1 : Bd), Rn K (Q_X3_isAmong K lt b c ms rd m P) 0 0 (f_X3_isAmong_L3 N P x1 x2 x3 k n x4 ms1) 3 [(0, .ref (kB K + 19)), (1, vG (kB K) x1), (2, vI x2), (3, vG (kB K) x3), (4, vI x4)] [] (Zw (kE K) lt b c ms1 rd m P) := by
  intro n
  induction n with
  | zero =>
    intro x4 ms1
    rw [f_X3_isAmong_L3]
    exact r_none
  | succ n ih =>
    intro x4 ms1
    rw [f_X3_isAmong_L3]
    refine r_iload (pc := 3) X 4 dX3_isAmong_3 rfl ?_
    refine r_gload_n (pc := 5) X 3 dX3_isAmong_5 rfl rfl ?_
    refine r_ckG (fun h1 => ?_)
    refine r_rf0 h1.1 ?_
    refine r_get (pc := 6) (v := vI ((gP P x3).1)) X (62 + 2 * (x3).toNat) 0 inX2 (zg_gobj h1) rfl (by decide) tf_X3_25 rfl dX3_isAmong_6 ?_
    refine r_ck1 (fun h2 => ?_)
    refine r_ck1 (fun h3 => ?_)
    refine r_icmp_ge (pc := 9) X h2 h3 dX3_isAmong_9 (tgt := 32) (by decide) (fun h4 => ?_) (fun h4 => ?_)
    · refine r_sub [] rfl ?_
      exact hk ms1
    · refine r_aload_n (pc := 12) X 0 dX3_isAmong_12 rfl rfl ?_
      refine r_gload_n (pc := 13) X 1 dX3_isAmong_13 rfl rfl ?_
      refine r_iload_n (pc := 14) X 2 dX3_isAmong_14 rfl rfl ?_
      refine r_gload_n (pc := 15) X 3 dX3_isAmong_15 rfl rfl ?_
      refine r_iload (pc := 16) X 4 dX3_isAmong_16 rfl ?_
      refine r_callV (pc := 18) (q0 := 19) (ci := 3) (As := [vG (kB K) x1, vI x2, vG (kB K) x3, vI x4]) (rest := []) (W' := fun q18_5 => (Zw (kE K) lt b c q18_5.2 rd m P)) (rv := fun q18_5 => some (vI q18_5.1)) X dX3_isAmong_18 rfl (fun a ha => c_X3_alikeAt N lt b c ms1 rd m P x1 x2 x3 x4 K.1.2.1 K.2.2.1.1 (kE K) a ha) (fun a => Zw_d _ _ _ _ _ _ _ _) gd_X3_31 rfl (n := 4) (by decide) rfl (by decide) rfl rfl rfl (Nat.zero_le _) (fun q18_5 eq18_5 => ?_)
      show Rn K _ 0 0 _ 21 [(0, .ref (kB K + 19)), (1, vG (kB K) x1), (2, vI x2), (3, vG (kB K) x3), (4, vI x4)] [vI q18_5.1] (Zw (kE K) lt b c q18_5.2 rd m P)
      refine r_ck1 (fun h6 => ?_)
      refine r_ifeq (pc := 21) X h6 dX3_isAmong_21 (tgt := 26) (by decide) (fun h7 => ?_) (fun h7 => ?_)
      · refine r_iinc (pc := 26) (lv' := [(0, .ref (kB K + 19)), (1, vG (kB K) x1), (2, vI x2), (3, vG (kB K) x3), (4, vI (x4 + 1))]) X 4 [1, 2, 3, 4, 0] dX3_isAmong_26 rfl (by decide) (by simp [lv_pick, z_cat]) ?_
        refine r_goto (pc := 29) X dX3_isAmong_29 (tgt := 3) (by decide) ?_
        exact ih (x4 + 1) q18_5.2
      · refine r_iconst (pc := 24) X 1 dX3_isAmong_24 (by decide) ?_
        exact r_zret (pc := 25) X (by decide) rfl rfl (by decide) dX3_isAmong_25
set_option maxRecDepth 100000 in
set_option maxHeartbeats 4000000 in
theorem t_X3_isAmong (N : Nat) (lt b c ms rd m : Bd) (P : PL) (x1 x2 x3 : Int) (K : KT) (X : Kok K cX3_isAmong yX3_isAmong.cls lw_g ({ frames := 4, cells := 0, slots := 0, locals := 95 } : Room) (some .boolean) 5) : Rn K (Q_X3_isAmong K lt b c ms rd m P) 0 0 (f_X3_isAmong N ms P x1 x2 x3) 0 [(0, .ref (kB K + 19)), (1, vG (kB K) x1), (2, vI x2), (3, vG (kB K) x3)] [] (Zw (kE K) lt b c ms rd m P) := by
  unfold f_X3_isAmong
  refine r_iconst (pc := 0) X 0 dX3_isAmong_0 (by decide) ?_
  refine r_istore (pc := 1) (i := 4) (lv' := [(0, .ref (kB K + 19)), (1, vG (kB K) x1), (2, vI x2), (3, vG (kB K) x3), (4, vI 0)]) X [1, 2, 3, 4, 0] dX3_isAmong_1 (by decide) (by simp [lv_pick, z_cat]) ?_
  refine t_X3_isAmong_L3 N lt b c ms rd m P  x1 x2 x3 K X _ ?_ N 0 ms
  intro ms_3
  refine r_iconst (pc := 32) X 0 dX3_isAmong_32 (by decide) ?_
  exact r_zret (pc := 33) X (by decide) rfl rfl (by decide) dX3_isAmong_33
theorem c_X3_isAmong (N : Nat) (lt b c ms rd m : Bd) (P : PL) (x1 x2 x3 : Int) (l : Launch) (D : va_G) (E : ET) (a : Int × Bd) (ha : f_X3_isAmong N ms P x1 x2 x3 = some a) : Ct l yX3_isAmong (Cond.code yX3_isAmong cX3_isAmong 5 (some .boolean) :: lw_g) ({ frames := 4, cells := 0, slots := 0, locals := 95 } : Room) D E [.ref (E.2.2.2 + 19), vG (E.2.2.2) x1, vI x2, vG (E.2.2.2) x3] (Zw E lt b c ms rd m P) (Zw E lt b c a.2 rd m P) (some (vI a.1)) :=
  ct_of (av := fun E => [.ref (E.2.2.2 + 19), vG (E.2.2.2) x1, vI x2, vG (E.2.2.2) x3]) (W0 := fun E => Zw E lt b c ms rd m P) (W1 := fun E (a : Int × Bd) => Zw E lt b c a.2 rd m P) (rw := fun E a => some (vI a.1)) (by decide) rfl (fun E => Zw_d E lt b c ms rd m P) (fun E => by simp [lg_sl, z_cat, z_catR, z_catI, z_catL]) (fun K X => r_lv (by simp [lv_args, z_cat, z_catR, z_catI, z_catL]) (t_X3_isAmong N lt b c ms rd m P x1 x2 x3 K X)) l D E a ha
abbrev Q_X3_commonCount (K : KT) (lt b c ms rd m : Bd) (P : PL) : (Int × Bd) → State → Prop := Qm K ({ frames := 5, cells := 0, slots := 0, locals := 119 } : Room) (fun a : Int × Bd => Zw (kE K) lt b c a.2 rd m P) (fun a => some (vI a.1))
set_option maxRecDepth 100000 in
set_option maxHeartbeats 4000000 in
theorem t_X3_commonCount_L5 (N : Nat) (lt b c ms rd m : Bd) (P : PL) (x1 x2 : Int) (K : KT) (X : Kok K cX3_commonCount yX3_commonCount.cls lw_g ({ frames := 5, cells := 0, slots := 0, locals := 119 } : Room) (some .int) 5) (k : Int → Bd → Option (Int × Bd)) (hk : ∀ (x3 : Int) (ms1 : Bd), Rn K (Q_X3_commonCount K lt b c ms rd m P) 0 0 (k x3 ms1) 34 [(3, vI x3)] [] (Zw (kE K) lt b c ms1 rd m P)) : ∀ (n : Nat) (x3 : Int) (x4 : Int) (ms1 : Bd), Rn K (Q_X3_commonCount K lt b c ms rd m P) 0 0 (f_X3_commonCount_L5 N P x1 x2 k n x3 x4 ms1) 5 [(0, .ref (kB K + 19)), (1, vG (kB K) x1), (2, vG (kB K) x2), (3, vI x3), (4, vI x4)] [] (Zw (kE K) lt b c ms1 rd m P) := by
  intro n
  induction n with
  | zero =>
    intro x3 x4 ms1
    rw [f_X3_commonCount_L5]
    exact r_none
  | succ n ih =>
    intro x3 x4 ms1
    rw [f_X3_commonCount_L5]
    refine r_iload (pc := 5) X 4 dX3_commonCount_5 rfl ?_
    refine r_gload_n (pc := 7) X 1 dX3_commonCount_7 rfl rfl ?_
    refine r_ckG (fun h1 => ?_)
    refine r_rf0 h1.1 ?_
    refine r_get (pc := 8) (v := vI ((gP P x1).1)) X (62 + 2 * (x1).toNat) 0 inX2 (zg_gobj h1) rfl (by decide) tf_X3_25 rfl dX3_commonCount_8 ?_
    refine r_ck1 (fun h2 => ?_)
    refine r_ck1 (fun h3 => ?_)
    refine r_icmp_ge (pc := 11) X h2 h3 dX3_commonCount_11 (tgt := 34) (by decide) (fun h4 => ?_) (fun h4 => ?_)
    · refine r_sub [3] rfl ?_
      exact hk x3 ms1
    · refine r_aload_n (pc := 14) X 0 dX3_commonCount_14 rfl rfl ?_
      refine r_gload_n (pc := 15) X 1 dX3_commonCount_15 rfl rfl ?_
      refine r_iload (pc := 16) X 4 dX3_commonCount_16 rfl ?_
      refine r_gload_n (pc := 18) X 2 dX3_commonCount_18 rfl rfl ?_
      refine r_callV (pc := 19) (q0 := 19) (ci := 3) (As := [vG (kB K) x1, vI x4, vG (kB K) x2]) (rest := []) (W' := fun q19_5 => (Zw (kE K) lt b c q19_5.2 rd m P)) (rv := fun q19_5 => some (vI q19_5.1)) X dX3_commonCount_19 rfl (fun a ha => c_X3_isAmong N lt b c ms1 rd m P x1 x4 x2 K.1.2.1 K.2.2.1.1 (kE K) a ha) (fun a => Zw_d _ _ _ _ _ _ _ _) gd_X3_35 rfl (n := 3) (by decide) rfl (by decide) rfl rfl rfl (Nat.zero_le _) (fun q19_5 eq19_5 => ?_)
      show Rn K _ 0 0 _ 22 [(0, .ref (kB K + 19)), (1, vG (kB K) x1), (2, vG (kB K) x2), (3, vI x3), (4, vI x4)] [vI q19_5.1] (Zw (kE K) lt b c q19_5.2 rd m P)
      refine r_ck1 (fun h6 => ?_)
      refine r_ifeq (pc := 22) X h6 dX3_commonCount_22 (tgt := 28) (by decide) (fun h7 => ?_) (fun h7 => ?_)
      · refine r_iinc (pc := 28) (lv' := [(0, .ref (kB K + 19)), (1, vG (kB K) x1), (2, vG (kB K) x2), (3, vI x3), (4, vI (x4 + 1))]) X 4 [1, 2, 3, 4, 0] dX3_commonCount_28 rfl (by decide) rfl ?_
        refine r_goto (pc := 31) X dX3_commonCount_31 (tgt := 5) (by decide) ?_
        exact ih x3 (x4 + 1) q19_5.2
      · refine r_iinc (pc := 25) (lv' := [(0, .ref (kB K + 19)), (1, vG (kB K) x1), (2, vG (kB K) x2), (3, vI (x3 + 1)), (4, vI x4)]) X 3 [1, 2, 3, 0, 4] dX3_commonCount_25 rfl (by decide) (by simp [lv_pick, z_cat]) ?_
        refine r_iinc (pc := 28) (lv' := [(0, .ref (kB K + 19)), (1, vG (kB K) x1), (2, vG (kB K) x2), (3, vI (x3 + 1)), (4, vI (x4 + 1))]) X 4 [1, 2, 3, 4, 0] dX3_commonCount_28 rfl (by decide) rfl ?_
        refine r_goto (pc := 31) X dX3_commonCount_31 (tgt := 5) (by decide) ?_
        exact ih (x3 + 1) (x4 + 1) q19_5.2
set_option maxRecDepth 100000 in
set_option maxHeartbeats 4000000 in
theorem t_X3_commonCount (N : Nat) (lt b c ms rd m : Bd) (P : PL) (x1 x2 : Int) (K : KT) (X : Kok K cX3_commonCount yX3_commonCount.cls lw_g ({ frames := 5, cells := 0, slots := 0, locals := 119 } : Room) (some .int) 5) : Rn K (Q_X3_commonCount K lt b c ms rd m P) 0 0 (f_X3_commonCount N ms P x1 x2) 0 [(0, .ref (kB K + 19)), (1, vG (kB K) x1), (2, vG (kB K) x2)] [] (Zw (kE K) lt b c ms rd m P) := by
  unfold f_X3_commonCount
  refine r_iconst (pc := 0) X 0 dX3_commonCount_0 (by decide) ?_
  refine r_istore_n (pc := 1) (i := 3) (lv' := [(0, .ref (kB K + 19)), (1, vG (kB K) x1), (2, vG (kB K) x2), (3, vI 0)]) X [1, 2, 3, 0] dX3_commonCount_1 rfl (by decide) (by simp [lv_pick, z_cat]) ?_
  refine r_iconst (pc := 2) X 0 dX3_commonCount_2 (by decide) ?_
  refine r_istore (pc := 3) (lv' := [(0, .ref (kB K + 19)), (1, vG (kB K) x1), (2, vG (kB K) x2), (3, vI 0), (4, vI 0)]) X [1, 2, 3, 4, 0] dX3_commonCount_3 (by decide) rfl ?_
  refine t_X3_commonCount_L5 N lt b c ms rd m P  x1 x2 K X _ ?_ N 0 0 ms
  intro x3_5 ms_5
  refine r_iload_n (pc := 34) X 0 dX3_commonCount_34 rfl rfl ?_
  exact r_iret (pc := 35) X rfl rfl (by decide) dX3_commonCount_35
theorem c_X3_commonCount (N : Nat) (lt b c ms rd m : Bd) (P : PL) (x1 x2 : Int) (l : Launch) (D : va_G) (E : ET) (a : Int × Bd) (ha : f_X3_commonCount N ms P x1 x2 = some a) : Ct l yX3_commonCount (Cond.code yX3_commonCount cX3_commonCount 5 (some .int) :: lw_g) ({ frames := 5, cells := 0, slots := 0, locals := 119 } : Room) D E [.ref (E.2.2.2 + 19), vG (E.2.2.2) x1, vG (E.2.2.2) x2] (Zw E lt b c ms rd m P) (Zw E lt b c a.2 rd m P) (some (vI a.1)) :=
  ct_of (av := fun E => [.ref (E.2.2.2 + 19), vG (E.2.2.2) x1, vG (E.2.2.2) x2]) (W0 := fun E => Zw E lt b c ms rd m P) (W1 := fun E (a : Int × Bd) => Zw E lt b c a.2 rd m P) (rw := fun E a => some (vI a.1)) (by decide) rfl (fun E => Zw_d E lt b c ms rd m P) (fun E => by simp [lg_sl, z_cat, z_catR, z_catI, z_catL]) (fun K X => r_lv (by simp [lv_args, z_cat, z_catR, z_catI, z_catL]) (t_X3_commonCount N lt b c ms rd m P x1 x2 K X)) l D E a ha
abbrev Q_X3_placeOf (K : KT) (lt b c ms rd m : Bd) (P : PL) : (Int × Bd) → State → Prop := Qm K ({ frames := 4, cells := 0, slots := 0, locals := 95 } : Room) (fun a : Int × Bd => Zw (kE K) lt b c a.2 rd m P) (fun a => some (vI a.1))
set_option maxRecDepth 100000 in
set_option maxHeartbeats 4000000 in
theorem t_X3_placeOf_L2 (N : Nat) (lt b c ms rd m : Bd) (P : PL) (x1 x2 : Int) (K : KT) (X : Kok K cX3_placeOf yX3_placeOf.cls lw_g ({ frames := 4, cells := 0, slots := 0, locals := 95 } : Room) (some .int) 4) (k : Bd → Option (Int × Bd)) (hk : ∀ (ms1 : Bd), Rn K (Q_X3_placeOf K lt b c ms rd m P) 0 0 (k ms1) 29 [] [] (Zw (kE K) lt b c ms1 rd m P)) : ∀ (n : Nat) (x3 : Int) (ms1 : Bd), Rn K (Q_X3_placeOf K lt b c ms rd m P) 0 0 (f_X3_placeOf_L2 N P x1 x2 k n x3 ms1) 2 [(0, .ref (kB K + 19)), (1, vG (kB K) x1), (2, vG (kB K) x2), (3, vI x3)] [] (Zw (kE K) lt b c ms1 rd m P) := by
  intro n
  induction n with
  | zero =>
    intro x3 ms1
    rw [f_X3_placeOf_L2]
    exact r_none
  | succ n ih =>
    intro x3 ms1
    rw [f_X3_placeOf_L2]
    refine r_iload_n (pc := 2) X 3 dX3_placeOf_2 rfl rfl ?_
    refine r_gload_n (pc := 3) X 1 dX3_placeOf_3 rfl rfl ?_
    refine r_ckG (fun h1 => ?_)
    refine r_rf0 h1.1 ?_
    refine r_get (pc := 4) (v := vI ((gP P x1).1)) X (62 + 2 * (x1).toNat) 0 inX2 (zg_gobj h1) rfl (by decide) tf_X3_25 rfl dX3_placeOf_4 ?_
    refine r_ck1 (fun h2 => ?_)
    refine r_ck1 (fun h3 => ?_)
    refine r_icmp_ge (pc := 7) X h2 h3 dX3_placeOf_7 (tgt := 29) (by decide) (fun h4 => ?_) (fun h4 => ?_)
    · refine r_sub [] rfl ?_
      exact hk ms1
    · refine r_aload_n (pc := 10) X 0 dX3_placeOf_10 rfl rfl ?_
      refine r_gload_n (pc := 11) X 1 dX3_placeOf_11 rfl rfl ?_
      refine r_iload_n (pc := 12) X 3 dX3_placeOf_12 rfl rfl ?_
      refine r_gload_n (pc := 13) X 2 dX3_placeOf_13 rfl rfl ?_
      refine r_iconst (pc := 14) X 0 dX3_placeOf_14 (by decide) ?_
      refine r_callV (pc := 15) (q0 := 19) (ci := 3) (As := [vG (kB K) x1, vI x3, vG (kB K) x2, vI 0]) (rest := []) (W' := fun q15_5 => (Zw (kE K) lt b c q15_5.2 rd m P)) (rv := fun q15_5 => some (vI q15_5.1)) X dX3_placeOf_15 rfl (fun a ha => c_X3_alikeAt N lt b c ms1 rd m P x1 x3 x2 0 K.1.2.1 K.2.2.1.1 (kE K) a ha) (fun a => Zw_d _ _ _ _ _ _ _ _) gd_X3_31 rfl (n := 4) (by decide) rfl (by decide) rfl rfl rfl (Nat.zero_le _) (fun q15_5 eq15_5 => ?_)
      show Rn K _ 0 0 _ 18 [(0, .ref (kB K + 19)), (1, vG (kB K) x1), (2, vG (kB K) x2), (3, vI x3)] [vI q15_5.1] (Zw (kE K) lt b c q15_5.2 rd m P)
      refine r_ck1 (fun h6 => ?_)
      refine r_ifeq (pc := 18) X h6 dX3_placeOf_18 (tgt := 23) (by decide) (fun h7 => ?_) (fun h7 => ?_)
      · refine r_iinc (pc := 23) (lv' := [(0, .ref (kB K + 19)), (1, vG (kB K) x1), (2, vG (kB K) x2), (3, vI (x3 + 1))]) X 3 [1, 2, 3, 0] dX3_placeOf_23 rfl (by decide) (by simp [lv_pick, z_cat]) ?_
        refine r_goto (pc := 26) X dX3_placeOf_26 (tgt := 2) (by decide) ?_
        exact ih (x3 + 1) q15_5.2
      · refine r_iload_n (pc := 21) X 3 dX3_placeOf_21 rfl rfl ?_
        exact r_iret (pc := 22) X rfl rfl (by decide) dX3_placeOf_22
set_option maxRecDepth 100000 in
set_option maxHeartbeats 4000000 in
theorem t_X3_placeOf (N : Nat) (lt b c ms rd m : Bd) (P : PL) (x1 x2 : Int) (K : KT) (X : Kok K cX3_placeOf yX3_placeOf.cls lw_g ({ frames := 4, cells := 0, slots := 0, locals := 95 } : Room) (some .int) 4) : Rn K (Q_X3_placeOf K lt b c ms rd m P) 0 0 (f_X3_placeOf N ms P x1 x2) 0 [(0, .ref (kB K + 19)), (1, vG (kB K) x1), (2, vG (kB K) x2)] [] (Zw (kE K) lt b c ms rd m P) := by
  unfold f_X3_placeOf
  refine r_iconst (pc := 0) X 0 dX3_placeOf_0 (by decide) ?_
  refine r_istore_n (pc := 1) (i := 3) (lv' := [(0, .ref (kB K + 19)), (1, vG (kB K) x1), (2, vG (kB K) x2), (3, vI 0)]) X [1, 2, 3, 0] dX3_placeOf_1 rfl (by decide) (by simp [lv_pick, z_cat]) ?_
  refine t_X3_placeOf_L2 N lt b c ms rd m P  x1 x2 K X _ ?_ N 0 ms
  intro ms_2
  refine r_iconst (pc := 29) X (-1) dX3_placeOf_29 (by decide) ?_
  exact r_iret (pc := 30) X rfl rfl (by decide) dX3_placeOf_30
theorem c_X3_placeOf (N : Nat) (lt b c ms rd m : Bd) (P : PL) (x1 x2 : Int) (l : Launch) (D : va_G) (E : ET) (a : Int × Bd) (ha : f_X3_placeOf N ms P x1 x2 = some a) : Ct l yX3_placeOf (Cond.code yX3_placeOf cX3_placeOf 4 (some .int) :: lw_g) ({ frames := 4, cells := 0, slots := 0, locals := 95 } : Room) D E [.ref (E.2.2.2 + 19), vG (E.2.2.2) x1, vG (E.2.2.2) x2] (Zw E lt b c ms rd m P) (Zw E lt b c a.2 rd m P) (some (vI a.1)) :=
  ct_of (av := fun E => [.ref (E.2.2.2 + 19), vG (E.2.2.2) x1, vG (E.2.2.2) x2]) (W0 := fun E => Zw E lt b c ms rd m P) (W1 := fun E (a : Int × Bd) => Zw E lt b c a.2 rd m P) (rw := fun E a => some (vI a.1)) (by decide) rfl (fun E => Zw_d E lt b c ms rd m P) (fun E => by simp [lg_sl, z_cat, z_catR, z_catI, z_catL]) (fun K X => r_lv (by simp [lv_args, z_cat, z_catR, z_catI, z_catL]) (t_X3_placeOf N lt b c ms rd m P x1 x2 K X)) l D E a ha
abbrev Q_X3_stepsTo (K : KT) (lt b c ms rd m : Bd) (P : PL) : (Int × Bd) → State → Prop := Qm K ({ frames := 3, cells := 0, slots := 0, locals := 63 } : Room) (fun a : Int × Bd => Zw (kE K) lt b c a.2 rd m P) (fun a => some (vI a.1))
set_option maxRecDepth 100000 in
set_option maxHeartbeats 4000000 in
theorem t_X3_stepsTo_L53 (N : Nat) (lt b c ms rd m : Bd) (P : PL) (x1 x2 x3 x4 : Int) (K : KT) (X : Kok K cX3_stepsTo yX3_stepsTo.cls lw_g ({ frames := 3, cells := 0, slots := 0, locals := 63 } : Room) (some .int) 7) (k : Bd → Option (Int × Bd)) (hk : ∀ (ms1 : Bd), Rn K (Q_X3_stepsTo K lt b c ms rd m P) 0 0 (k ms1) 101 [(0, .ref (kB K + 19)), (1, vG (kB K) x1), (2, vI x2), (3, vI x3)] [] (Zw (kE K) lt b c ms1 rd m P)) : ∀ (n : Nat) (x5 : Int) (ms1 : Bd), Rn K (Q_X3_stepsTo K lt b c ms rd m P) 0 0 (f_X3_stepsTo_L53 P x1 x2 x3 x4 k n x5 ms1) 53 [(0, .ref (kB K + 19)), (1, vG (kB K) x1), (2, vI x2), (3, vI x3), (4, vI x4), (5, vI x5)] [] (Zw (kE K) lt b c ms1 rd m P) := by
  intro n
  induction n with
  | zero =>
    intro x5 ms1
    rw [f_X3_stepsTo_L53]
    exact r_none
  | succ n ih =>
    intro x5 ms1
    rw [f_X3_stepsTo_L53]
    refine r_iload (pc := 53) X 5 dX3_stepsTo_53 rfl ?_
    refine r_iload (pc := 55) X 4 dX3_stepsTo_55 rfl ?_
    refine r_ck1 (fun h12 => ?_)
    refine r_ck1 (fun h13 => ?_)
    refine r_icmp_ge (pc := 57) X h12 h13 dX3_stepsTo_57 (tgt := 101) (by decide) (fun h14 => ?_) (fun h14 => ?_)
    · refine r_sub [0, 1, 2, 3] rfl ?_
      exact hk ms1
    · refine r_gload_n (pc := 60) X 1 dX3_stepsTo_60 rfl rfl ?_
      refine r_iload_n (pc := 61) X 3 dX3_stepsTo_61 rfl rfl ?_
      refine r_iload (pc := 62) X 5 dX3_stepsTo_62 rfl ?_
      refine r_ckG (fun h15 => ?_)
      refine r_rf2 h15.1 ?_
      refine r_callV (pc := 64) (q0 := (62 + 2 * (x1).toNat)) (ci := 2) (As := [vI x3, vI x5]) (rest := []) (W' := fun q64_16 => (Zw (kE K) lt b c ms1 rd m P)) (rv := fun q64_16 => some (vI q64_16)) X dX3_stepsTo_64 rfl (fun a ha => c_X2_partAt N lt b c ms1 rd m P x1 h15 x3 x5 K.1.2.1 K.2.2.1.1 (kE K) a ha) (fun a => Zw_d _ _ _ _ _ _ _ _) gd_X3_50 rfl (n := 2) (by decide) rfl (by decide) rfl rfl (zg_gobj h15) (Nat.zero_le _) (fun q64_16 eq64_16 => ?_)
      show Rn K _ 0 0 _ 67 [(0, .ref (kB K + 19)), (1, vG (kB K) x1), (2, vI x2), (3, vI x3), (4, vI x4), (5, vI x5)] [vI q64_16] (Zw (kE K) lt b c ms1 rd m P)
      refine r_istore (pc := 67) (lv' := [(0, .ref (kB K + 19)), (1, vG (kB K) x1), (2, vI x2), (3, vI x3), (4, vI x4), (5, vI x5), (6, vI q64_16)]) X [1, 2, 3, 4, 5, 6, 0] dX3_stepsTo_67 (by decide) rfl ?_
      refine r_aload_n (pc := 69) X 0 dX3_stepsTo_69 rfl rfl ?_
      refine r_get (pc := 70) (v := .ref (kB K + 20)) X 19 0 inX3 rfl rfl (by decide) tf_X3_9 rfl dX3_stepsTo_70 ?_
      refine r_iload (pc := 73) X 6 dX3_stepsTo_73 rfl ?_
      refine r_ckA (fun h17 => ?_)
      refine r_iald (pc := 75) (f := ms1 0) X 20 h17 zl_40 rfl dX3_stepsTo_75 ?_
      refine r_iconst (pc := 76) X (-1) dX3_stepsTo_76 (by decide) ?_
      refine r_ck1 (fun h18 => ?_)
      refine r_icmp_ne (pc := 77) X h18 (by decide) dX3_stepsTo_77 (tgt := 95) (by decide) (fun h19 => ?_) (fun h19 => ?_)
      · refine r_iinc (pc := 95) (lv' := [(0, .ref (kB K + 19)), (1, vG (kB K) x1), (2, vI x2), (3, vI x3), (4, vI x4), (5, vI (x5 + 1)), (6, vI q64_16)]) X 5 [1, 2, 3, 4, 5, 0, 6] dX3_stepsTo_95 rfl (by decide) rfl ?_
        refine r_goto (pc := 98) X dX3_stepsTo_98 (tgt := 53) (by decide) ?_
        refine r_sub [0, 1, 2, 3, 4, 5] rfl ?_
        exact ih (x5 + 1) ms1
      · refine r_aload_n (pc := 80) X 0 dX3_stepsTo_80 rfl rfl ?_
        refine r_get (pc := 81) (v := .ref (kB K + 20)) X 19 0 inX3 rfl rfl (by decide) tf_X3_9 rfl dX3_stepsTo_81 ?_
        refine r_iload (pc := 84) X 6 dX3_stepsTo_84 rfl ?_
        refine r_aload_n (pc := 86) X 0 dX3_stepsTo_86 rfl rfl ?_
        refine r_get (pc := 87) (v := .ref (kB K + 20)) X 19 0 inX3 rfl rfl (by decide) tf_X3_9 rfl dX3_stepsTo_87 ?_
        refine r_iload_n (pc := 90) X 3 dX3_stepsTo_90 rfl rfl ?_
        refine r_ckA (fun h20 => ?_)
        refine r_iald (pc := 91) (f := ms1 0) X 20 h20 zl_40 rfl dX3_stepsTo_91 ?_
        refine r_iconst (pc := 92) X 1 dX3_stepsTo_92 (by decide) ?_
        refine r_iadd (pc := 93) X dX3_stepsTo_93 ?_
        refine r_iast (pc := 94) (f := ms1 0) (ws' := (Zw (kE K) lt b c (bS ms1 0 (aS (ms1 0) q64_16 ((ms1 0 x3) + 1))) rd m P)) X 20 h17 zl_40 rfl rfl dX3_stepsTo_94 ?_
        refine r_iinc (pc := 95) (lv' := [(0, .ref (kB K + 19)), (1, vG (kB K) x1), (2, vI x2), (3, vI x3), (4, vI x4), (5, vI (x5 + 1)), (6, vI q64_16)]) X 5 [1, 2, 3, 4, 5, 0, 6] dX3_stepsTo_95 rfl (by decide) rfl ?_
        refine r_goto (pc := 98) X dX3_stepsTo_98 (tgt := 53) (by decide) ?_
        refine r_sub [0, 1, 2, 3, 4, 5] rfl ?_
        exact ih (x5 + 1) (bS ms1 0 (aS (ms1 0) q64_16 ((ms1 0 x3) + 1)))
set_option maxRecDepth 100000 in
set_option maxHeartbeats 4000000 in
theorem t_X3_stepsTo_L35 (N : Nat) (lt b c ms rd m : Bd) (P : PL) (x1 x2 : Int) (K : KT) (X : Kok K cX3_stepsTo yX3_stepsTo.cls lw_g ({ frames := 3, cells := 0, slots := 0, locals := 63 } : Room) (some .int) 7) (k : Bd → Option (Int × Bd)) (hk : ∀ (ms1 : Bd), Rn K (Q_X3_stepsTo K lt b c ms rd m P) 0 0 (k ms1) 107 [(0, .ref (kB K + 19)), (2, vI x2)] [] (Zw (kE K) lt b c ms1 rd m P)) : ∀ (n : Nat) (x3 : Int) (ms1 : Bd), Rn K (Q_X3_stepsTo K lt b c ms rd m P) 0 0 (f_X3_stepsTo_L35 N P x1 x2 k n x3 ms1) 35 [(0, .ref (kB K + 19)), (1, vG (kB K) x1), (2, vI x2), (3, vI x3)] [] (Zw (kE K) lt b c ms1 rd m P) := by
  intro n
  induction n with
  | zero =>
    intro x3 ms1
    rw [f_X3_stepsTo_L35]
    exact r_none
  | succ n ih =>
    intro x3 ms1
    rw [f_X3_stepsTo_L35]
    refine r_iload_n (pc := 35) X 3 dX3_stepsTo_35 rfl rfl ?_
    refine r_gload_n (pc := 36) X 1 dX3_stepsTo_36 rfl rfl ?_
    refine r_ckG (fun h7 => ?_)
    refine r_rf0 h7.1 ?_
    refine r_get (pc := 37) (v := vI ((gP P x1).1)) X (62 + 2 * (x1).toNat) 0 inX2 (zg_gobj h7) rfl (by decide) tf_X3_25 rfl dX3_stepsTo_37 ?_
    refine r_ck1 (fun h8 => ?_)
    refine r_ck1 (fun h9 => ?_)
    refine r_icmp_ge (pc := 40) X h8 h9 dX3_stepsTo_40 (tgt := 107) (by decide) (fun h10 => ?_) (fun h10 => ?_)
    · refine r_sub [0, 2] rfl ?_
      exact hk ms1
    · refine r_gload_n (pc := 43) X 1 dX3_stepsTo_43 rfl rfl ?_
      refine r_iload_n (pc := 44) X 3 dX3_stepsTo_44 rfl rfl ?_
      refine r_rf1 h7.1 ?_
      refine r_callV (pc := 45) (q0 := (62 + 2 * (x1).toNat)) (ci := 2) (As := [vI x3]) (rest := []) (W' := fun q45_11 => (Zw (kE K) lt b c ms1 rd m P)) (rv := fun q45_11 => some (vI q45_11)) X dX3_stepsTo_45 rfl (fun a ha => c_X2_partCount N lt b c ms1 rd m P x1 h7 x3 K.1.2.1 K.2.2.1.1 (kE K) a ha) (fun a => Zw_d _ _ _ _ _ _ _ _) gd_X3_47 rfl (n := 1) (by decide) rfl (by decide) rfl rfl (zg_gobj h7) (Nat.zero_le _) (fun q45_11 eq45_11 => ?_)
      show Rn K _ 0 0 _ 48 [(0, .ref (kB K + 19)), (1, vG (kB K) x1), (2, vI x2), (3, vI x3)] [vI q45_11] (Zw (kE K) lt b c ms1 rd m P)
      refine r_istore (pc := 48) (lv' := [(0, .ref (kB K + 19)), (1, vG (kB K) x1), (2, vI x2), (3, vI x3), (4, vI q45_11)]) X [1, 2, 3, 4, 0] dX3_stepsTo_48 (by decide) rfl ?_
      refine r_iconst (pc := 50) X 0 dX3_stepsTo_50 (by decide) ?_
      refine r_istore (pc := 51) (lv' := [(0, .ref (kB K + 19)), (1, vG (kB K) x1), (2, vI x2), (3, vI x3), (4, vI q45_11), (5, vI 0)]) X [1, 2, 3, 4, 5, 0] dX3_stepsTo_51 (by decide) rfl ?_
      refine t_X3_stepsTo_L53 N lt b c ms rd m P  x1 x2 x3 q45_11 K X _ ?_ N 0 ms1
      intro ms_53
      refine r_iinc (pc := 101) (lv' := [(0, .ref (kB K + 19)), (1, vG (kB K) x1), (2, vI x2), (3, vI (x3 + 1))]) X 3 [1, 2, 3, 0] dX3_stepsTo_101 rfl (by decide) rfl ?_
      refine r_goto (pc := 104) X dX3_stepsTo_104 (tgt := 35) (by decide) ?_
      exact ih (x3 + 1) ms_53
set_option maxRecDepth 100000 in
set_option maxHeartbeats 4000000 in
theorem t_X3_stepsTo (N : Nat) (lt b c ms rd m : Bd) (P : PL) (x1 x2 : Int) (K : KT) (X : Kok K cX3_stepsTo yX3_stepsTo.cls lw_g ({ frames := 3, cells := 0, slots := 0, locals := 63 } : Room) (some .int) 7) : Rn K (Q_X3_stepsTo K lt b c ms rd m P) 0 0 (f_X3_stepsTo N ms P x1 x2) 0 [(0, .ref (kB K + 19)), (1, vG (kB K) x1), (2, vI x2)] [] (Zw (kE K) lt b c ms rd m P) := by
  unfold f_X3_stepsTo
  refine r_iload_n (pc := 0) X 2 dX3_stepsTo_0 rfl rfl ?_
  refine r_ck1 (fun h1 => ?_)
  refine r_iflt (pc := 1) X h1 dX3_stepsTo_1 (tgt := 12) (by decide) (fun h2 => ?_) (fun h2 => ?_)
  · refine r_iconst (pc := 12) X (-1) dX3_stepsTo_12 (by decide) ?_
    exact r_iret (pc := 13) X rfl rfl (by decide) dX3_stepsTo_13
  · refine r_iload_n (pc := 4) X 2 dX3_stepsTo_4 rfl rfl ?_
    refine r_gload_n (pc := 5) X 1 dX3_stepsTo_5 rfl rfl ?_
    refine r_ckG (fun h3 => ?_)
    refine r_rf0 h3.1 ?_
    refine r_get (pc := 6) (v := vI ((gP P x1).1)) X (62 + 2 * (x1).toNat) 0 inX2 (zg_gobj h3) rfl (by decide) tf_X3_25 rfl dX3_stepsTo_6 ?_
    refine r_ck1 (fun h4 => ?_)
    refine r_icmp_lt (pc := 9) X h1 h4 dX3_stepsTo_9 (tgt := 14) (by decide) (fun h5 => ?_) (fun h5 => ?_)
    · refine r_aload_n (pc := 14) X 0 dX3_stepsTo_14 rfl rfl ?_
      refine r_get (pc := 15) (v := .ref (kB K + 20)) X 19 0 inX3 rfl rfl (by decide) tf_X3_9 rfl dX3_stepsTo_15 ?_
      refine r_gload_n (pc := 18) X 1 dX3_stepsTo_18 rfl rfl ?_
      refine r_rf0 h3.1 ?_
      refine r_get (pc := 19) (v := vI ((gP P x1).1)) X (62 + 2 * (x1).toNat) 0 inX2 (zg_gobj h3) rfl (by decide) tf_X3_25 rfl dX3_stepsTo_19 ?_
      refine r_iconst (pc := 22) X (-1) dX3_stepsTo_22 (by decide) ?_
      refine r_callN (pc := 23) (As := [.ref (kB K + 20), vI ((gP P x1).1), vI (-1)]) (rest := []) (W' := fun q23_6 => (Zw (kE K) lt b c (bS ms 0 q23_6) rd m P)) (rv := fun _ => none) X dX3_stepsTo_23 rfl (fun a ha => c_X5_fillRow N (fun F0 => (Zw (kE K) lt b c (bS ms 0 F0) rd m P)) 20 (kB K + 20) 40 40 (ms 0) ((gP P x1).1) (-1) K.1.2.1 K.2.2.1.1 (kE K) zl_40 (fun F0 => Zw_d _ _ _ _ _ _ _ _) (fun _ => rfl) (fun _ _ => rfl) a ha) (fun a => Zw_d _ _ _ _ _ _ _ _) (gd_c tc_X5_fillRow) (by decide) tt_X5_fillRow tn_RX5 rfl (n := 3) (by decide) rfl (by decide) (Nat.zero_le _) (fun q23_6 eq23_6 => ?_)
      show Rn K _ 0 0 _ 26 [(0, .ref (kB K + 19)), (1, vG (kB K) x1), (2, vI x2)] [] (Zw (kE K) lt b c (bS ms 0 q23_6) rd m P)
      refine r_aload_n (pc := 26) X 0 dX3_stepsTo_26 rfl rfl ?_
      refine r_get (pc := 27) (v := .ref (kB K + 20)) X 19 0 inX3 rfl rfl (by decide) tf_X3_9 rfl dX3_stepsTo_27 ?_
      refine r_iconst (pc := 30) X 0 dX3_stepsTo_30 (by decide) ?_
      refine r_iconst (pc := 31) X 0 dX3_stepsTo_31 (by decide) ?_
      refine r_iast (pc := 32) (f := q23_6) (ws' := (Zw (kE K) lt b c (bS ms 0 (aS q23_6 0 0)) rd m P)) X 20 (by decide) zl_40 rfl rfl dX3_stepsTo_32 ?_
      refine r_iconst (pc := 33) X 0 dX3_stepsTo_33 (by decide) ?_
      refine r_istore_n (pc := 34) (lv' := [(0, .ref (kB K + 19)), (1, vG (kB K) x1), (2, vI x2), (3, vI 0)]) X [1, 2, 3, 0] dX3_stepsTo_34 rfl (by decide) rfl ?_
      refine t_X3_stepsTo_L35 N lt b c ms rd m P  x1 x2 K X _ ?_ N 0 (bS ms 0 (aS q23_6 0 0))
      intro ms_35
      refine r_aload_n (pc := 107) X 0 dX3_stepsTo_107 rfl rfl ?_
      refine r_get (pc := 108) (v := .ref (kB K + 20)) X 19 0 inX3 rfl rfl (by decide) tf_X3_9 rfl dX3_stepsTo_108 ?_
      refine r_iload_n (pc := 111) X 1 dX3_stepsTo_111 rfl rfl ?_
      refine r_ckA (fun h21 => ?_)
      refine r_iald (pc := 112) (f := ms_35 0) X 20 h21 zl_40 rfl dX3_stepsTo_112 ?_
      exact r_iret (pc := 113) X rfl rfl (by decide) dX3_stepsTo_113
    · refine r_iconst (pc := 12) X (-1) dX3_stepsTo_12 (by decide) ?_
      exact r_iret (pc := 13) X rfl rfl (by decide) dX3_stepsTo_13
theorem c_X3_stepsTo (N : Nat) (lt b c ms rd m : Bd) (P : PL) (x1 x2 : Int) (l : Launch) (D : va_G) (E : ET) (a : Int × Bd) (ha : f_X3_stepsTo N ms P x1 x2 = some a) : Ct l yX3_stepsTo (Cond.code yX3_stepsTo cX3_stepsTo 7 (some .int) :: lw_g) ({ frames := 3, cells := 0, slots := 0, locals := 63 } : Room) D E [.ref (E.2.2.2 + 19), vG (E.2.2.2) x1, vI x2] (Zw E lt b c ms rd m P) (Zw E lt b c a.2 rd m P) (some (vI a.1)) :=
  ct_of (av := fun E => [.ref (E.2.2.2 + 19), vG (E.2.2.2) x1, vI x2]) (W0 := fun E => Zw E lt b c ms rd m P) (W1 := fun E (a : Int × Bd) => Zw E lt b c a.2 rd m P) (rw := fun E a => some (vI a.1)) (by decide) rfl (fun E => Zw_d E lt b c ms rd m P) (fun E => by simp [lg_sl, z_cat, z_catR, z_catI, z_catL]) (fun K X => r_lv (by simp [lv_args, z_cat, z_catR, z_catI, z_catL]) (t_X3_stepsTo N lt b c ms rd m P x1 x2 K X)) l D E a ha
abbrev Q_X3_loopCount (K : KT) (lt b c ms rd m : Bd) (P : PL) : (Int × Bd) → State → Prop := Qm K ({ frames := 3, cells := 0, slots := 0, locals := 63 } : Room) (fun a : Int × Bd => Zw (kE K) lt b c a.2 rd m P) (fun a => some (vI a.1))
set_option maxRecDepth 100000 in
set_option maxHeartbeats 4000000 in
theorem t_X3_loopCount_L26 (N : Nat) (lt b c ms rd m : Bd) (P : PL) (x1 x2 x3 : Int) (K : KT) (X : Kok K cX3_loopCount yX3_loopCount.cls lw_g ({ frames := 3, cells := 0, slots := 0, locals := 63 } : Room) (some .int) 5) (k : Bd → Option (Int × Bd)) (hk : ∀ (ms1 : Bd), Rn K (Q_X3_loopCount K lt b c ms rd m P) 0 0 (k ms1) 56 [(0, .ref (kB K + 19)), (1, vG (kB K) x1), (2, vI x2)] [] (Zw (kE K) lt b c ms1 rd m P)) : ∀ (n : Nat) (x4 : Int) (ms1 : Bd), Rn K (Q_X3_loopCount K lt b c ms rd m P) 0 0 (f_X3_loopCount_L26 P x1 x2 x3 k n x4 ms1) 26 [(0, .ref (kB K + 19)), (1, vG (kB K) x1), (2, vI x2), (3, vI x3), (4, vI x4)] [] (Zw (kE K) lt b c ms1 rd m P) := by
  intro n
  induction n with
  | zero =>
    intro x4 ms1
    rw [f_X3_loopCount_L26]
    exact r_none
  | succ n ih =>
    intro x4 ms1
    rw [f_X3_loopCount_L26]
    refine r_iload (pc := 26) X 4 dX3_loopCount_26 rfl ?_
    refine r_iload_n (pc := 28) X 3 dX3_loopCount_28 rfl rfl ?_
    refine r_ck1 (fun h7 => ?_)
    refine r_ck1 (fun h8 => ?_)
    refine r_icmp_ge (pc := 29) X h7 h8 dX3_loopCount_29 (tgt := 56) (by decide) (fun h9 => ?_) (fun h9 => ?_)
    · refine r_sub [0, 1, 2] rfl ?_
      exact hk ms1
    · refine r_aload_n (pc := 32) X 0 dX3_loopCount_32 rfl rfl ?_
      refine r_get (pc := 33) (v := .ref (kB K + 23)) X 19 3 inX3 rfl rfl (by decide) tf_X3_21 rfl dX3_loopCount_33 ?_
      refine r_iload_n (pc := 36) X 2 dX3_loopCount_36 rfl rfl ?_
      refine r_dup2 (pc := 37) X dX3_loopCount_37 rfl rfl ?_
      refine r_ckA (fun h10 => ?_)
      refine r_lald (pc := 38) (f := ms1 3) X 23 h10 zl_40 rfl dX3_loopCount_38 ?_
      refine r_lconst (pc := 39) X 1 dX3_loopCount_39 (by decide) ?_
      refine r_gload_n (pc := 40) X 1 dX3_loopCount_40 rfl rfl ?_
      refine r_iload_n (pc := 41) X 2 dX3_loopCount_41 rfl rfl ?_
      refine r_iload (pc := 42) X 4 dX3_loopCount_42 rfl ?_
      refine r_ckG (fun h11 => ?_)
      refine r_rf2 h11.1 ?_
      refine r_callV (pc := 44) (q0 := (62 + 2 * (x1).toNat)) (ci := 2) (As := [vI x2, vI x4]) (rest := [vL 1, vL (ms1 3 x2), vI x2, .ref (kB K + 23)]) (W' := fun q44_12 => (Zw (kE K) lt b c ms1 rd m P)) (rv := fun q44_12 => some (vI q44_12)) X dX3_loopCount_44 rfl (fun a ha => c_X2_partAt N lt b c ms1 rd m P x1 h11 x2 x4 K.1.2.1 K.2.2.1.1 (kE K) a ha) (fun a => Zw_d _ _ _ _ _ _ _ _) gd_X3_50 rfl (n := 2) (by decide) rfl (by decide) rfl rfl (zg_gobj h11) (by simp [z_cat, z_catR, z_catI, z_catL]) (fun q44_12 eq44_12 => ?_)
      show Rn K _ 0 0 _ 47 [(0, .ref (kB K + 19)), (1, vG (kB K) x1), (2, vI x2), (3, vI x3), (4, vI x4)] [vI q44_12, vL 1, vL (ms1 3 x2), vI x2, .ref (kB K + 23)] (Zw (kE K) lt b c ms1 rd m P)
      refine r_lshl (pc := 47) X dX3_loopCount_47 ?_
      refine r_lor (pc := 48) X dX3_loopCount_48 ?_
      refine r_last (pc := 49) (f := ms1 3) (ws' := (Zw (kE K) lt b c (bS ms1 3 (aS (ms1 3) x2 (l_or (ms1 3 x2) (l_shl 1 q44_12)))) rd m P)) X 23 h10 zl_40 rfl rfl dX3_loopCount_49 ?_
      refine r_iinc (pc := 50) (lv' := [(0, .ref (kB K + 19)), (1, vG (kB K) x1), (2, vI x2), (3, vI x3), (4, vI (x4 + 1))]) X 4 [1, 2, 3, 4, 0] dX3_loopCount_50 rfl (by decide) rfl ?_
      refine r_goto (pc := 53) X dX3_loopCount_53 (tgt := 26) (by decide) ?_
      exact ih (x4 + 1) (bS ms1 3 (aS (ms1 3) x2 (l_or (ms1 3 x2) (l_shl 1 q44_12))))
set_option maxRecDepth 100000 in
set_option maxHeartbeats 4000000 in
theorem t_X3_loopCount_L2 (N : Nat) (lt b c ms rd m : Bd) (P : PL) (x1 : Int) (K : KT) (X : Kok K cX3_loopCount yX3_loopCount.cls lw_g ({ frames := 3, cells := 0, slots := 0, locals := 63 } : Room) (some .int) 5) (k : Bd → Option (Int × Bd)) (hk : ∀ (ms1 : Bd), Rn K (Q_X3_loopCount K lt b c ms rd m P) 0 0 (k ms1) 62 [(0, .ref (kB K + 19)), (1, vG (kB K) x1)] [] (Zw (kE K) lt b c ms1 rd m P)) : ∀ (n : Nat) (x2 : Int) (ms1 : Bd), Rn K (Q_X3_loopCount K lt b c ms rd m P) 0 0 (f_X3_loopCount_L2 N P x1 k n x2 ms1) 2 [(0, .ref (kB K + 19)), (1, vG (kB K) x1), (2, vI x2)] [] (Zw (kE K) lt b c ms1 rd m P) := by
  intro n
  induction n with
  | zero =>
    intro x2 ms1
    rw [f_X3_loopCount_L2]
    exact r_none
  | succ n ih =>
    intro x2 ms1
    rw [f_X3_loopCount_L2]
    refine r_iload_n (pc := 2) X 2 dX3_loopCount_2 rfl rfl ?_
    refine r_gload_n (pc := 3) X 1 dX3_loopCount_3 rfl rfl ?_
    refine r_ckG (fun h1 => ?_)
    refine r_rf0 h1.1 ?_
    refine r_get (pc := 4) (v := vI ((gP P x1).1)) X (62 + 2 * (x1).toNat) 0 inX2 (zg_gobj h1) rfl (by decide) tf_X3_25 rfl dX3_loopCount_4 ?_
    refine r_ck1 (fun h2 => ?_)
    refine r_ck1 (fun h3 => ?_)
    refine r_icmp_ge (pc := 7) X h2 h3 dX3_loopCount_7 (tgt := 62) (by decide) (fun h4 => ?_) (fun h4 => ?_)
    · refine r_sub [0, 1] rfl ?_
      exact hk ms1
    · refine r_aload_n (pc := 10) X 0 dX3_loopCount_10 rfl rfl ?_
      refine r_get (pc := 11) (v := .ref (kB K + 23)) X 19 3 inX3 rfl rfl (by decide) tf_X3_21 rfl dX3_loopCount_11 ?_
      refine r_iload_n (pc := 14) X 2 dX3_loopCount_14 rfl rfl ?_
      refine r_lconst (pc := 15) X 0 dX3_loopCount_15 (by decide) ?_
      refine r_ckA (fun h5 => ?_)
      refine r_last (pc := 16) (f := ms1 3) (ws' := (Zw (kE K) lt b c (bS ms1 3 (aS (ms1 3) x2 0)) rd m P)) X 23 h5 zl_40 rfl rfl dX3_loopCount_16 ?_
      refine r_gload_n (pc := 17) X 1 dX3_loopCount_17 rfl rfl ?_
      refine r_iload_n (pc := 18) X 2 dX3_loopCount_18 rfl rfl ?_
      refine r_rf1 h1.1 ?_
      refine r_callV (pc := 19) (q0 := (62 + 2 * (x1).toNat)) (ci := 2) (As := [vI x2]) (rest := []) (W' := fun q19_6 => (Zw (kE K) lt b c (bS ms1 3 (aS (ms1 3) x2 0)) rd m P)) (rv := fun q19_6 => some (vI q19_6)) X dX3_loopCount_19 rfl (fun a ha => c_X2_partCount N lt b c (bS ms1 3 (aS (ms1 3) x2 0)) rd m P x1 h1 x2 K.1.2.1 K.2.2.1.1 (kE K) a ha) (fun a => Zw_d _ _ _ _ _ _ _ _) gd_X3_47 rfl (n := 1) (by decide) rfl (by decide) rfl rfl (zg_gobj h1) (Nat.zero_le _) (fun q19_6 eq19_6 => ?_)
      show Rn K _ 0 0 _ 22 [(0, .ref (kB K + 19)), (1, vG (kB K) x1), (2, vI x2)] [vI q19_6] (Zw (kE K) lt b c (bS ms1 3 (aS (ms1 3) x2 0)) rd m P)
      refine r_istore_n (pc := 22) (lv' := [(0, .ref (kB K + 19)), (1, vG (kB K) x1), (2, vI x2), (3, vI q19_6)]) X [1, 2, 3, 0] dX3_loopCount_22 rfl (by decide) rfl ?_
      refine r_iconst (pc := 23) X 0 dX3_loopCount_23 (by decide) ?_
      refine r_istore (pc := 24) (lv' := [(0, .ref (kB K + 19)), (1, vG (kB K) x1), (2, vI x2), (3, vI q19_6), (4, vI 0)]) X [1, 2, 3, 4, 0] dX3_loopCount_24 (by decide) rfl ?_
      refine t_X3_loopCount_L26 N lt b c ms rd m P  x1 x2 q19_6 K X _ ?_ N 0 (bS ms1 3 (aS (ms1 3) x2 0))
      intro ms_26
      refine r_iinc (pc := 56) (lv' := [(0, .ref (kB K + 19)), (1, vG (kB K) x1), (2, vI (x2 + 1))]) X 2 [1, 2, 0] dX3_loopCount_56 rfl (by decide) (by simp [lv_pick, z_cat]) ?_
      refine r_goto (pc := 59) X dX3_loopCount_59 (tgt := 2) (by decide) ?_
      exact ih (x2 + 1) ms_26
set_option maxRecDepth 100000 in
set_option maxHeartbeats 4000000 in
theorem t_X3_loopCount_L74 (N : Nat) (lt b c ms rd m : Bd) (P : PL) (x1 x2 : Int) (K : KT) (X : Kok K cX3_loopCount yX3_loopCount.cls lw_g ({ frames := 3, cells := 0, slots := 0, locals := 63 } : Room) (some .int) 5) (k : Bd → Option (Int × Bd)) (hk : ∀ (ms1 : Bd), Rn K (Q_X3_loopCount K lt b c ms rd m P) 0 0 (k ms1) 118 [(0, .ref (kB K + 19)), (1, vG (kB K) x1), (2, vI x2)] [] (Zw (kE K) lt b c ms1 rd m P)) : ∀ (n : Nat) (x3 : Int) (ms1 : Bd), Rn K (Q_X3_loopCount K lt b c ms rd m P) 0 0 (f_X3_loopCount_L74 P x1 x2 k n x3 ms1) 74 [(0, .ref (kB K + 19)), (1, vG (kB K) x1), (2, vI x2), (3, vI x3)] [] (Zw (kE K) lt b c ms1 rd m P) := by
  intro n
  induction n with
  | zero =>
    intro x3 ms1
    rw [f_X3_loopCount_L74]
    exact r_none
  | succ n ih =>
    intro x3 ms1
    rw [f_X3_loopCount_L74]
    refine r_iload_n (pc := 74) X 3 dX3_loopCount_74 rfl rfl ?_
    refine r_gload_n (pc := 75) X 1 dX3_loopCount_75 rfl rfl ?_
    refine r_ckG (fun h17 => ?_)
    refine r_rf0 h17.1 ?_
    refine r_get (pc := 76) (v := vI ((gP P x1).1)) X (62 + 2 * (x1).toNat) 0 inX2 (zg_gobj h17) rfl (by decide) tf_X3_25 rfl dX3_loopCount_76 ?_
    refine r_ck1 (fun h18 => ?_)
    refine r_ck1 (fun h19 => ?_)
    refine r_icmp_ge (pc := 79) X h18 h19 dX3_loopCount_79 (tgt := 118) (by decide) (fun h20 => ?_) (fun h20 => ?_)
    · refine r_sub [0, 1, 2] rfl ?_
      exact hk ms1
    · refine r_aload_n (pc := 82) X 0 dX3_loopCount_82 rfl rfl ?_
      refine r_get (pc := 83) (v := .ref (kB K + 23)) X 19 3 inX3 rfl rfl (by decide) tf_X3_21 rfl dX3_loopCount_83 ?_
      refine r_iload_n (pc := 86) X 3 dX3_loopCount_86 rfl rfl ?_
      refine r_ckA (fun h21 => ?_)
      refine r_lald (pc := 87) (f := ms1 3) X 23 h21 zl_40 rfl dX3_loopCount_87 ?_
      refine r_iload_n (pc := 88) X 2 dX3_loopCount_88 rfl rfl ?_
      refine r_lshr (pc := 89) X dX3_loopCount_89 ?_
      refine r_lconst (pc := 90) X 1 dX3_loopCount_90 (by decide) ?_
      refine r_land (pc := 91) X dX3_loopCount_91 ?_
      refine r_lconst (pc := 92) X 1 dX3_loopCount_92 (by decide) ?_
      refine r_ckL (fun h22 => ?_)
      refine r_lcmp (pc := 93) X h22 (by decide) dX3_loopCount_93 ?_
      refine r_ck1 (fun h23 => ?_)
      refine r_ifne (pc := 94) X h23 dX3_loopCount_94 (tgt := 112) (by decide) (fun h24 => ?_) (fun h24 => ?_)
      · refine r_iinc (pc := 112) (lv' := [(0, .ref (kB K + 19)), (1, vG (kB K) x1), (2, vI x2), (3, vI (x3 + 1))]) X 3 [1, 2, 3, 0] dX3_loopCount_112 rfl (by decide) rfl ?_
        refine r_goto (pc := 115) X dX3_loopCount_115 (tgt := 74) (by decide) ?_
        exact ih (x3 + 1) ms1
      · refine r_aload_n (pc := 97) X 0 dX3_loopCount_97 rfl rfl ?_
        refine r_get (pc := 98) (v := .ref (kB K + 23)) X 19 3 inX3 rfl rfl (by decide) tf_X3_21 rfl dX3_loopCount_98 ?_
        refine r_iload_n (pc := 101) X 3 dX3_loopCount_101 rfl rfl ?_
        refine r_dup2 (pc := 102) X dX3_loopCount_102 rfl rfl ?_
        refine r_lald (pc := 103) (f := ms1 3) X 23 h21 zl_40 rfl dX3_loopCount_103 ?_
        refine r_aload_n (pc := 104) X 0 dX3_loopCount_104 rfl rfl ?_
        refine r_get (pc := 105) (v := .ref (kB K + 23)) X 19 3 inX3 rfl rfl (by decide) tf_X3_21 rfl dX3_loopCount_105 ?_
        refine r_iload_n (pc := 108) X 2 dX3_loopCount_108 rfl rfl ?_
        refine r_ckA (fun h25 => ?_)
        refine r_lald (pc := 109) (f := ms1 3) X 23 h25 zl_40 rfl dX3_loopCount_109 ?_
        refine r_lor (pc := 110) X dX3_loopCount_110 ?_
        refine r_last (pc := 111) (f := ms1 3) (ws' := (Zw (kE K) lt b c (bS ms1 3 (aS (ms1 3) x3 (l_or (ms1 3 x3) (ms1 3 x2)))) rd m P)) X 23 h21 zl_40 rfl rfl dX3_loopCount_111 ?_
        refine r_iinc (pc := 112) (lv' := [(0, .ref (kB K + 19)), (1, vG (kB K) x1), (2, vI x2), (3, vI (x3 + 1))]) X 3 [1, 2, 3, 0] dX3_loopCount_112 rfl (by decide) rfl ?_
        refine r_goto (pc := 115) X dX3_loopCount_115 (tgt := 74) (by decide) ?_
        exact ih (x3 + 1) (bS ms1 3 (aS (ms1 3) x3 (l_or (ms1 3 x3) (ms1 3 x2))))
set_option maxRecDepth 100000 in
set_option maxHeartbeats 4000000 in
theorem t_X3_loopCount_L64 (N : Nat) (lt b c ms rd m : Bd) (P : PL) (x1 : Int) (K : KT) (X : Kok K cX3_loopCount yX3_loopCount.cls lw_g ({ frames := 3, cells := 0, slots := 0, locals := 63 } : Room) (some .int) 5) (k : Bd → Option (Int × Bd)) (hk : ∀ (ms1 : Bd), Rn K (Q_X3_loopCount K lt b c ms rd m P) 0 0 (k ms1) 124 [(0, .ref (kB K + 19)), (1, vG (kB K) x1)] [] (Zw (kE K) lt b c ms1 rd m P)) : ∀ (n : Nat) (x2 : Int) (ms1 : Bd), Rn K (Q_X3_loopCount K lt b c ms rd m P) 0 0 (f_X3_loopCount_L64 N P x1 k n x2 ms1) 64 [(0, .ref (kB K + 19)), (1, vG (kB K) x1), (2, vI x2)] [] (Zw (kE K) lt b c ms1 rd m P) := by
  intro n
  induction n with
  | zero =>
    intro x2 ms1
    rw [f_X3_loopCount_L64]
    exact r_none
  | succ n ih =>
    intro x2 ms1
    rw [f_X3_loopCount_L64]
    refine r_iload_n (pc := 64) X 2 dX3_loopCount_64 rfl rfl ?_
    refine r_gload_n (pc := 65) X 1 dX3_loopCount_65 rfl rfl ?_
    refine r_ckG (fun h13 => ?_)
    refine r_rf0 h13.1 ?_
    refine r_get (pc := 66) (v := vI ((gP P x1).1)) X (62 + 2 * (x1).toNat) 0 inX2 (zg_gobj h13) rfl (by decide) tf_X3_25 rfl dX3_loopCount_66 ?_
    refine r_ck1 (fun h14 => ?_)
    refine r_ck1 (fun h15 => ?_)
    refine r_icmp_ge (pc := 69) X h14 h15 dX3_loopCount_69 (tgt := 124) (by decide) (fun h16 => ?_) (fun h16 => ?_)
    · refine r_sub [0, 1] rfl ?_
      exact hk ms1
    · refine r_iconst (pc := 72) X 0 dX3_loopCount_72 (by decide) ?_
      refine r_istore_n (pc := 73) (lv' := [(0, .ref (kB K + 19)), (1, vG (kB K) x1), (2, vI x2), (3, vI 0)]) X [1, 2, 3, 0] dX3_loopCount_73 rfl (by decide) rfl ?_
      refine t_X3_loopCount_L74 N lt b c ms rd m P  x1 x2 K X _ ?_ N 0 ms1
      intro ms_74
      refine r_iinc (pc := 118) (lv' := [(0, .ref (kB K + 19)), (1, vG (kB K) x1), (2, vI (x2 + 1))]) X 2 [1, 2, 0] dX3_loopCount_118 rfl (by decide) (by simp [lv_pick, z_cat]) ?_
      refine r_goto (pc := 121) X dX3_loopCount_121 (tgt := 64) (by decide) ?_
      exact ih (x2 + 1) ms_74
set_option maxRecDepth 100000 in
set_option maxHeartbeats 4000000 in
theorem t_X3_loopCount_L128 (N : Nat) (lt b c ms rd m : Bd) (P : PL) (ms1 : Bd) (x1 : Int) (K : KT) (X : Kok K cX3_loopCount yX3_loopCount.cls lw_g ({ frames := 3, cells := 0, slots := 0, locals := 63 } : Room) (some .int) 5) (k : Int → Option (Int × Bd)) (hk : ∀ (x2 : Int), Rn K (Q_X3_loopCount K lt b c ms rd m P) 0 0 (k x2) 156 [(2, vI x2)] [] (Zw (kE K) lt b c ms1 rd m P)) : ∀ (n : Nat) (x2 : Int) (x3 : Int), Rn K (Q_X3_loopCount K lt b c ms rd m P) 0 0 (f_X3_loopCount_L128 ms1 P x1 k n x2 x3) 128 [(0, .ref (kB K + 19)), (1, vG (kB K) x1), (2, vI x2), (3, vI x3)] [] (Zw (kE K) lt b c ms1 rd m P) := by
  intro n
  induction n with
  | zero =>
    intro x2 x3
    rw [f_X3_loopCount_L128]
    exact r_none
  | succ n ih =>
    intro x2 x3
    rw [f_X3_loopCount_L128]
    refine r_iload_n (pc := 128) X 3 dX3_loopCount_128 rfl rfl ?_
    refine r_gload_n (pc := 129) X 1 dX3_loopCount_129 rfl rfl ?_
    refine r_ckG (fun h26 => ?_)
    refine r_rf0 h26.1 ?_
    refine r_get (pc := 130) (v := vI ((gP P x1).1)) X (62 + 2 * (x1).toNat) 0 inX2 (zg_gobj h26) rfl (by decide) tf_X3_25 rfl dX3_loopCount_130 ?_
    refine r_ck1 (fun h27 => ?_)
    refine r_ck1 (fun h28 => ?_)
    refine r_icmp_ge (pc := 133) X h27 h28 dX3_loopCount_133 (tgt := 156) (by decide) (fun h29 => ?_) (fun h29 => ?_)
    · refine r_sub [2] rfl ?_
      exact hk x2
    · refine r_iload_n (pc := 136) X 2 dX3_loopCount_136 rfl rfl ?_
      refine r_aload_n (pc := 137) X 0 dX3_loopCount_137 rfl rfl ?_
      refine r_get (pc := 138) (v := .ref (kB K + 23)) X 19 3 inX3 rfl rfl (by decide) tf_X3_21 rfl dX3_loopCount_138 ?_
      refine r_iload_n (pc := 141) X 3 dX3_loopCount_141 rfl rfl ?_
      refine r_ckA (fun h30 => ?_)
      refine r_lald (pc := 142) (f := ms1 3) X 23 h30 zl_40 rfl dX3_loopCount_142 ?_
      refine r_iload_n (pc := 143) X 3 dX3_loopCount_143 rfl rfl ?_
      refine r_lshr (pc := 144) X dX3_loopCount_144 ?_
      refine r_lconst (pc := 145) X 1 dX3_loopCount_145 (by decide) ?_
      refine r_land (pc := 146) X dX3_loopCount_146 ?_
      refine r_l2i (pc := 147) X dX3_loopCount_147 ?_
      refine r_iadd (pc := 148) X dX3_loopCount_148 ?_
      refine r_istore_n (pc := 149) (i := 2) (lv' := [(0, .ref (kB K + 19)), (1, vG (kB K) x1), (2, vI (x2 + (l_and (l_shr (ms1 3 x3) x3) 1))), (3, vI x3)]) X [1, 2, 0, 3] dX3_loopCount_149 rfl (by decide) (by simp [lv_pick, z_cat]) ?_
      refine r_iinc (pc := 150) (lv' := [(0, .ref (kB K + 19)), (1, vG (kB K) x1), (2, vI (x2 + (l_and (l_shr (ms1 3 x3) x3) 1))), (3, vI (x3 + 1))]) X 3 [1, 2, 3, 0] dX3_loopCount_150 rfl (by decide) rfl ?_
      refine r_goto (pc := 153) X dX3_loopCount_153 (tgt := 128) (by decide) ?_
      exact ih (x2 + (l_and (l_shr (ms1 3 x3) x3) 1)) (x3 + 1)
set_option maxRecDepth 100000 in
set_option maxHeartbeats 4000000 in
theorem t_X3_loopCount (N : Nat) (lt b c ms rd m : Bd) (P : PL) (x1 : Int) (K : KT) (X : Kok K cX3_loopCount yX3_loopCount.cls lw_g ({ frames := 3, cells := 0, slots := 0, locals := 63 } : Room) (some .int) 5) : Rn K (Q_X3_loopCount K lt b c ms rd m P) 0 0 (f_X3_loopCount N ms P x1) 0 [(0, .ref (kB K + 19)), (1, vG (kB K) x1)] [] (Zw (kE K) lt b c ms rd m P) := by
  unfold f_X3_loopCount
  refine r_iconst (pc := 0) X 0 dX3_loopCount_0 (by decide) ?_
  refine r_istore_n (pc := 1) (i := 2) (lv' := [(0, .ref (kB K + 19)), (1, vG (kB K) x1), (2, vI 0)]) X [1, 2, 0] dX3_loopCount_1 rfl (by decide) (by simp [lv_pick, z_cat]) ?_
  refine t_X3_loopCount_L2 N lt b c ms rd m P  x1 K X _ ?_ N 0 ms
  intro ms_2
  refine r_iconst (pc := 62) X 0 dX3_loopCount_62 (by decide) ?_
  refine r_istore_n (pc := 63) (i := 2) (lv' := [(0, .ref (kB K + 19)), (1, vG (kB K) x1), (2, vI 0)]) X [1, 2, 0] dX3_loopCount_63 rfl (by decide) (by simp [lv_pick, z_cat]) ?_
  refine t_X3_loopCount_L64 N lt b c ms rd m P  x1 K X _ ?_ N 0 ms_2
  intro ms_64
  refine r_iconst (pc := 124) X 0 dX3_loopCount_124 (by decide) ?_
  refine r_istore_n (pc := 125) (i := 2) (lv' := [(0, .ref (kB K + 19)), (1, vG (kB K) x1), (2, vI 0)]) X [1, 2, 0] dX3_loopCount_125 rfl (by decide) (by simp [lv_pick, z_cat]) ?_
  refine r_iconst (pc := 126) X 0 dX3_loopCount_126 (by decide) ?_
  refine r_istore_n (pc := 127) (lv' := [(0, .ref (kB K + 19)), (1, vG (kB K) x1), (2, vI 0), (3, vI 0)]) X [1, 2, 3, 0] dX3_loopCount_127 rfl (by decide) rfl ?_
  refine t_X3_loopCount_L128 N lt b c ms rd m P ms_64 x1 K X _ ?_ N 0 0
  intro x2_128
  refine r_iload_n (pc := 156) X 0 dX3_loopCount_156 rfl rfl ?_
  exact r_iret (pc := 157) X rfl rfl (by decide) dX3_loopCount_157
theorem c_X3_loopCount (N : Nat) (lt b c ms rd m : Bd) (P : PL) (x1 : Int) (l : Launch) (D : va_G) (E : ET) (a : Int × Bd) (ha : f_X3_loopCount N ms P x1 = some a) : Ct l yX3_loopCount (Cond.code yX3_loopCount cX3_loopCount 5 (some .int) :: lw_g) ({ frames := 3, cells := 0, slots := 0, locals := 63 } : Room) D E [.ref (E.2.2.2 + 19), vG (E.2.2.2) x1] (Zw E lt b c ms rd m P) (Zw E lt b c a.2 rd m P) (some (vI a.1)) :=
  ct_of (av := fun E => [.ref (E.2.2.2 + 19), vG (E.2.2.2) x1]) (W0 := fun E => Zw E lt b c ms rd m P) (W1 := fun E (a : Int × Bd) => Zw E lt b c a.2 rd m P) (rw := fun E a => some (vI a.1)) (by decide) rfl (fun E => Zw_d E lt b c ms rd m P) (fun E => by simp [lg_sl, z_cat, z_catR, z_catI, z_catL]) (fun K X => r_lv (by simp [lv_args, z_cat, z_catR, z_catI, z_catL]) (t_X3_loopCount N lt b c ms rd m P x1 K X)) l D E a ha
abbrev Q_X3_longestWay (K : KT) (lt b c ms rd m : Bd) (P : PL) : (Int × Bd) → State → Prop := Qm K ({ frames := 4, cells := 0, slots := 0, locals := 87 } : Room) (fun a : Int × Bd => Zw (kE K) lt b c a.2 rd m P) (fun a => some (vI a.1))
set_option maxRecDepth 100000 in
set_option maxHeartbeats 4000000 in
theorem t_X3_longestWay_L52 (N : Nat) (lt b c ms rd m : Bd) (P : PL) (x1 x2 x3 x4 : Int) (K : KT) (X : Kok K cX3_longestWay yX3_longestWay.cls lw_g ({ frames := 4, cells := 0, slots := 0, locals := 87 } : Room) (some .int) 6) (k : Bd → Option (Int × Bd)) (hk : ∀ (ms1 : Bd), Rn K (Q_X3_longestWay K lt b c ms rd m P) 0 0 (k ms1) 94 [(0, .ref (kB K + 19)), (1, vG (kB K) x1), (2, vI x2), (3, vI x3)] [] (Zw (kE K) lt b c ms1 rd m P)) : ∀ (n : Nat) (x5 : Int) (ms1 : Bd), Rn K (Q_X3_longestWay K lt b c ms rd m P) 0 0 (f_X3_longestWay_L52 P x1 x2 x3 x4 k n x5 ms1) 52 [(0, .ref (kB K + 19)), (1, vG (kB K) x1), (2, vI x2), (3, vI x3), (4, vI x4), (5, vI x5)] [] (Zw (kE K) lt b c ms1 rd m P) := by
  intro n
  induction n with
  | zero =>
    intro x5 ms1
    rw [f_X3_longestWay_L52]
    exact r_none
  | succ n ih =>
    intro x5 ms1
    rw [f_X3_longestWay_L52]
    refine r_iload (pc := 52) X 5 dX3_longestWay_52 rfl ?_
    refine r_iload (pc := 54) X 4 dX3_longestWay_54 rfl ?_
    refine r_ck1 (fun h15 => ?_)
    refine r_ck1 (fun h16 => ?_)
    refine r_icmp_ge (pc := 56) X h15 h16 dX3_longestWay_56 (tgt := 94) (by decide) (fun h17 => ?_) (fun h17 => ?_)
    · refine r_sub [0, 1, 2, 3] rfl ?_
      exact hk ms1
    · refine r_aload_n (pc := 59) X 0 dX3_longestWay_59 rfl rfl ?_
      refine r_get (pc := 60) (v := .ref (kB K + 20)) X 19 0 inX3 rfl rfl (by decide) tf_X3_9 rfl dX3_longestWay_60 ?_
      refine r_iload_n (pc := 63) X 3 dX3_longestWay_63 rfl rfl ?_
      refine r_aload_n (pc := 64) X 0 dX3_longestWay_64 rfl rfl ?_
      refine r_get (pc := 65) (v := .ref (kB K + 20)) X 19 0 inX3 rfl rfl (by decide) tf_X3_9 rfl dX3_longestWay_65 ?_
      refine r_iload_n (pc := 68) X 3 dX3_longestWay_68 rfl rfl ?_
      refine r_ckA (fun h18 => ?_)
      refine r_iald (pc := 69) (f := ms1 0) X 20 h18 zl_40 rfl dX3_longestWay_69 ?_
      refine r_iconst (pc := 70) X 1 dX3_longestWay_70 (by decide) ?_
      refine r_aload_n (pc := 71) X 0 dX3_longestWay_71 rfl rfl ?_
      refine r_get (pc := 72) (v := .ref (kB K + 20)) X 19 0 inX3 rfl rfl (by decide) tf_X3_9 rfl dX3_longestWay_72 ?_
      refine r_gload_n (pc := 75) X 1 dX3_longestWay_75 rfl rfl ?_
      refine r_iload_n (pc := 76) X 3 dX3_longestWay_76 rfl rfl ?_
      refine r_iload (pc := 77) X 5 dX3_longestWay_77 rfl ?_
      refine r_ckG (fun h19 => ?_)
      refine r_rf2 h19.1 ?_
      refine r_callV (pc := 79) (q0 := (62 + 2 * (x1).toNat)) (ci := 2) (As := [vI x3, vI x5]) (rest := [.ref (kB K + 20), vI 1, vI (ms1 0 x3), vI x3, .ref (kB K + 20)]) (W' := fun q79_20 => (Zw (kE K) lt b c ms1 rd m P)) (rv := fun q79_20 => some (vI q79_20)) X dX3_longestWay_79 rfl (fun a ha => c_X2_partAt N lt b c ms1 rd m P x1 h19 x3 x5 K.1.2.1 K.2.2.1.1 (kE K) a ha) (fun a => Zw_d _ _ _ _ _ _ _ _) gd_X3_50 rfl (n := 2) (by decide) rfl (by decide) rfl rfl (zg_gobj h19) (by simp [z_cat, z_catR, z_catI, z_catL]) (fun q79_20 eq79_20 => ?_)
      show Rn K _ 0 0 _ 82 [(0, .ref (kB K + 19)), (1, vG (kB K) x1), (2, vI x2), (3, vI x3), (4, vI x4), (5, vI x5)] [vI q79_20, .ref (kB K + 20), vI 1, vI (ms1 0 x3), vI x3, .ref (kB K + 20)] (Zw (kE K) lt b c ms1 rd m P)
      refine r_ckA (fun h21 => ?_)
      refine r_iald (pc := 82) (f := ms1 0) X 20 h21 zl_40 rfl dX3_longestWay_82 ?_
      refine r_iadd (pc := 83) X dX3_longestWay_83 ?_
      refine r_ck1 (fun h22 => ?_)
      refine r_ck1 (fun h23 => ?_)
      refine r_max (pc := 84) X h22 h23 tl_X3_65 tt_max tn_math tc_max ⟨by decide, (by simp [z_cat, z_catR, z_catI, z_catL]), by decide, by decide⟩ dX3_longestWay_84 ?_
      refine r_iast (pc := 87) (f := ms1 0) (ws' := (Zw (kE K) lt b c (bS ms1 0 (aS (ms1 0) x3 (max (ms1 0 x3) (1 + (ms1 0 q79_20))))) rd m P)) X 20 h18 zl_40 rfl rfl dX3_longestWay_87 ?_
      refine r_iinc (pc := 88) (lv' := [(0, .ref (kB K + 19)), (1, vG (kB K) x1), (2, vI x2), (3, vI x3), (4, vI x4), (5, vI (x5 + 1))]) X 5 [1, 2, 3, 4, 5, 0] dX3_longestWay_88 rfl (by decide) rfl ?_
      refine r_goto (pc := 91) X dX3_longestWay_91 (tgt := 52) (by decide) ?_
      exact ih (x5 + 1) (bS ms1 0 (aS (ms1 0) x3 (max (ms1 0 x3) (1 + (ms1 0 q79_20)))))
set_option maxRecDepth 100000 in
set_option maxHeartbeats 4000000 in
theorem t_X3_longestWay_L34 (N : Nat) (lt b c ms rd m : Bd) (P : PL) (x1 x2 : Int) (K : KT) (X : Kok K cX3_longestWay yX3_longestWay.cls lw_g ({ frames := 4, cells := 0, slots := 0, locals := 87 } : Room) (some .int) 6) (k : Bd → Option (Int × Bd)) (hk : ∀ (ms1 : Bd), Rn K (Q_X3_longestWay K lt b c ms rd m P) 0 0 (k ms1) 100 [(0, .ref (kB K + 19)), (1, vG (kB K) x1), (2, vI x2)] [] (Zw (kE K) lt b c ms1 rd m P)) : ∀ (n : Nat) (x3 : Int) (ms1 : Bd), Rn K (Q_X3_longestWay K lt b c ms rd m P) 0 0 (f_X3_longestWay_L34 N P x1 x2 k n x3 ms1) 34 [(0, .ref (kB K + 19)), (1, vG (kB K) x1), (2, vI x2), (3, vI x3)] [] (Zw (kE K) lt b c ms1 rd m P) := by
  intro n
  induction n with
  | zero =>
    intro x3 ms1
    rw [f_X3_longestWay_L34]
    exact r_none
  | succ n ih =>
    intro x3 ms1
    rw [f_X3_longestWay_L34]
    refine r_iload_n (pc := 34) X 3 dX3_longestWay_34 rfl rfl ?_
    refine r_gload_n (pc := 35) X 1 dX3_longestWay_35 rfl rfl ?_
    refine r_ckG (fun h10 => ?_)
    refine r_rf0 h10.1 ?_
    refine r_get (pc := 36) (v := vI ((gP P x1).1)) X (62 + 2 * (x1).toNat) 0 inX2 (zg_gobj h10) rfl (by decide) tf_X3_25 rfl dX3_longestWay_36 ?_
    refine r_ck1 (fun h11 => ?_)
    refine r_ck1 (fun h12 => ?_)
    refine r_icmp_ge (pc := 39) X h11 h12 dX3_longestWay_39 (tgt := 100) (by decide) (fun h13 => ?_) (fun h13 => ?_)
    · refine r_sub [0, 1, 2] rfl ?_
      exact hk ms1
    · refine r_gload_n (pc := 42) X 1 dX3_longestWay_42 rfl rfl ?_
      refine r_iload_n (pc := 43) X 3 dX3_longestWay_43 rfl rfl ?_
      refine r_rf1 h10.1 ?_
      refine r_callV (pc := 44) (q0 := (62 + 2 * (x1).toNat)) (ci := 2) (As := [vI x3]) (rest := []) (W' := fun q44_14 => (Zw (kE K) lt b c ms1 rd m P)) (rv := fun q44_14 => some (vI q44_14)) X dX3_longestWay_44 rfl (fun a ha => c_X2_partCount N lt b c ms1 rd m P x1 h10 x3 K.1.2.1 K.2.2.1.1 (kE K) a ha) (fun a => Zw_d _ _ _ _ _ _ _ _) gd_X3_47 rfl (n := 1) (by decide) rfl (by decide) rfl rfl (zg_gobj h10) (Nat.zero_le _) (fun q44_14 eq44_14 => ?_)
      show Rn K _ 0 0 _ 47 [(0, .ref (kB K + 19)), (1, vG (kB K) x1), (2, vI x2), (3, vI x3)] [vI q44_14] (Zw (kE K) lt b c ms1 rd m P)
      refine r_istore (pc := 47) (lv' := [(0, .ref (kB K + 19)), (1, vG (kB K) x1), (2, vI x2), (3, vI x3), (4, vI q44_14)]) X [1, 2, 3, 4, 0] dX3_longestWay_47 (by decide) rfl ?_
      refine r_iconst (pc := 49) X 0 dX3_longestWay_49 (by decide) ?_
      refine r_istore (pc := 50) (lv' := [(0, .ref (kB K + 19)), (1, vG (kB K) x1), (2, vI x2), (3, vI x3), (4, vI q44_14), (5, vI 0)]) X [1, 2, 3, 4, 5, 0] dX3_longestWay_50 (by decide) rfl ?_
      refine t_X3_longestWay_L52 N lt b c ms rd m P  x1 x2 x3 q44_14 K X _ ?_ N 0 ms1
      intro ms_52
      refine r_iinc (pc := 94) (lv' := [(0, .ref (kB K + 19)), (1, vG (kB K) x1), (2, vI x2), (3, vI (x3 + 1))]) X 3 [1, 2, 3, 0] dX3_longestWay_94 rfl (by decide) rfl ?_
      refine r_goto (pc := 97) X dX3_longestWay_97 (tgt := 34) (by decide) ?_
      exact ih (x3 + 1) ms_52
set_option maxRecDepth 100000 in
set_option maxHeartbeats 4000000 in
theorem t_X3_longestWay_L24 (N : Nat) (lt b c ms rd m : Bd) (P : PL) (x1 : Int) (K : KT) (X : Kok K cX3_longestWay yX3_longestWay.cls lw_g ({ frames := 4, cells := 0, slots := 0, locals := 87 } : Room) (some .int) 6) (k : Bd → Option (Int × Bd)) (hk : ∀ (ms1 : Bd), Rn K (Q_X3_longestWay K lt b c ms rd m P) 0 0 (k ms1) 106 [(0, .ref (kB K + 19))] [] (Zw (kE K) lt b c ms1 rd m P)) : ∀ (n : Nat) (x2 : Int) (ms1 : Bd), Rn K (Q_X3_longestWay K lt b c ms rd m P) 0 0 (f_X3_longestWay_L24 N P x1 k n x2 ms1) 24 [(0, .ref (kB K + 19)), (1, vG (kB K) x1), (2, vI x2)] [] (Zw (kE K) lt b c ms1 rd m P) := by
  intro n
  induction n with
  | zero =>
    intro x2 ms1
    rw [f_X3_longestWay_L24]
    exact r_none
  | succ n ih =>
    intro x2 ms1
    rw [f_X3_longestWay_L24]
    refine r_iload_n (pc := 24) X 2 dX3_longestWay_24 rfl rfl ?_
    refine r_gload_n (pc := 25) X 1 dX3_longestWay_25 rfl rfl ?_
    refine r_ckG (fun h6 => ?_)
    refine r_rf0 h6.1 ?_
    refine r_get (pc := 26) (v := vI ((gP P x1).1)) X (62 + 2 * (x1).toNat) 0 inX2 (zg_gobj h6) rfl (by decide) tf_X3_25 rfl dX3_longestWay_26 ?_
    refine r_ck1 (fun h7 => ?_)
    refine r_ck1 (fun h8 => ?_)
    refine r_icmp_ge (pc := 29) X h7 h8 dX3_longestWay_29 (tgt := 106) (by decide) (fun h9 => ?_) (fun h9 => ?_)
    · refine r_sub [0] rfl ?_
      exact hk ms1
    · refine r_iconst (pc := 32) X 0 dX3_longestWay_32 (by decide) ?_
      refine r_istore_n (pc := 33) (lv' := [(0, .ref (kB K + 19)), (1, vG (kB K) x1), (2, vI x2), (3, vI 0)]) X [1, 2, 3, 0] dX3_longestWay_33 rfl (by decide) rfl ?_
      refine t_X3_longestWay_L34 N lt b c ms rd m P  x1 x2 K X _ ?_ N 0 ms1
      intro ms_34
      refine r_iinc (pc := 100) (lv' := [(0, .ref (kB K + 19)), (1, vG (kB K) x1), (2, vI (x2 + 1))]) X 2 [1, 2, 0] dX3_longestWay_100 rfl (by decide) (by simp [lv_pick, z_cat]) ?_
      refine r_goto (pc := 103) X dX3_longestWay_103 (tgt := 24) (by decide) ?_
      exact ih (x2 + 1) ms_34
set_option maxRecDepth 100000 in
set_option maxHeartbeats 4000000 in
theorem t_X3_longestWay (N : Nat) (lt b c ms rd m : Bd) (P : PL) (x1 : Int) (K : KT) (X : Kok K cX3_longestWay yX3_longestWay.cls lw_g ({ frames := 4, cells := 0, slots := 0, locals := 87 } : Room) (some .int) 6) : Rn K (Q_X3_longestWay K lt b c ms rd m P) 0 0 (f_X3_longestWay N ms P x1) 0 [(0, .ref (kB K + 19)), (1, vG (kB K) x1)] [] (Zw (kE K) lt b c ms rd m P) := by
  unfold f_X3_longestWay
  refine r_aload_n (pc := 0) X 0 dX3_longestWay_0 rfl rfl ?_
  refine r_gload_n (pc := 1) X 1 dX3_longestWay_1 rfl rfl ?_
  refine r_callV (pc := 2) (q0 := 19) (ci := 3) (As := [vG (kB K) x1]) (rest := []) (W' := fun q2_1 => (Zw (kE K) lt b c q2_1.2 rd m P)) (rv := fun q2_1 => some (vI q2_1.1)) X dX3_longestWay_2 rfl (fun a ha => c_X3_loopCount N lt b c ms rd m P x1 K.1.2.1 K.2.2.1.1 (kE K) a ha) (fun a => Zw_d _ _ _ _ _ _ _ _) gd_X3_61 rfl (n := 1) (by decide) rfl (by decide) rfl rfl rfl (Nat.zero_le _) (fun q2_1 eq2_1 => ?_)
  show Rn K _ 0 0 _ 5 [(0, .ref (kB K + 19)), (1, vG (kB K) x1)] [vI q2_1.1] (Zw (kE K) lt b c q2_1.2 rd m P)
  refine r_ck1 (fun h2 => ?_)
  refine r_ifle (pc := 5) X h2 dX3_longestWay_5 (tgt := 10) (by decide) (fun h3 => ?_) (fun h3 => ?_)
  · refine r_aload_n (pc := 10) X 0 dX3_longestWay_10 rfl rfl ?_
    refine r_get (pc := 11) (v := .ref (kB K + 20)) X 19 0 inX3 rfl rfl (by decide) tf_X3_9 rfl dX3_longestWay_11 ?_
    refine r_gload_n (pc := 14) X 1 dX3_longestWay_14 rfl rfl ?_
    refine r_ckG (fun h4 => ?_)
    refine r_rf0 h4.1 ?_
    refine r_get (pc := 15) (v := vI ((gP P x1).1)) X (62 + 2 * (x1).toNat) 0 inX2 (zg_gobj h4) rfl (by decide) tf_X3_25 rfl dX3_longestWay_15 ?_
    refine r_iconst (pc := 18) X 0 dX3_longestWay_18 (by decide) ?_
    refine r_callN (pc := 19) (As := [.ref (kB K + 20), vI ((gP P x1).1), vI 0]) (rest := []) (W' := fun q19_5 => (Zw (kE K) lt b c (bS q2_1.2 0 q19_5) rd m P)) (rv := fun _ => none) X dX3_longestWay_19 rfl (fun a ha => c_X5_fillRow N (fun F0 => (Zw (kE K) lt b c (bS q2_1.2 0 F0) rd m P)) 20 (kB K + 20) 40 40 (q2_1.2 0) ((gP P x1).1) 0 K.1.2.1 K.2.2.1.1 (kE K) zl_40 (fun F0 => Zw_d _ _ _ _ _ _ _ _) (fun _ => rfl) (fun _ _ => rfl) a ha) (fun a => Zw_d _ _ _ _ _ _ _ _) (gd_c tc_X5_fillRow) (by decide) tt_X5_fillRow tn_RX5 rfl (n := 3) (by decide) rfl (by decide) (Nat.zero_le _) (fun q19_5 eq19_5 => ?_)
    show Rn K _ 0 0 _ 22 [(0, .ref (kB K + 19)), (1, vG (kB K) x1)] [] (Zw (kE K) lt b c (bS q2_1.2 0 q19_5) rd m P)
    refine r_iconst (pc := 22) X 0 dX3_longestWay_22 (by decide) ?_
    refine r_istore_n (pc := 23) (i := 2) (lv' := [(0, .ref (kB K + 19)), (1, vG (kB K) x1), (2, vI 0)]) X [1, 2, 0] dX3_longestWay_23 rfl (by decide) (by simp [lv_pick, z_cat]) ?_
    refine t_X3_longestWay_L24 N lt b c ms rd m P  x1 K X _ ?_ N 0 (bS q2_1.2 0 q19_5)
    intro ms_24
    refine r_aload_n (pc := 106) X 0 dX3_longestWay_106 rfl rfl ?_
    refine r_get (pc := 107) (v := .ref (kB K + 20)) X 19 0 inX3 rfl rfl (by decide) tf_X3_9 rfl dX3_longestWay_107 ?_
    refine r_iconst (pc := 110) X 0 dX3_longestWay_110 (by decide) ?_
    refine r_iald (pc := 111) (f := ms_24 0) X 20 (by decide) zl_40 rfl dX3_longestWay_111 ?_
    exact r_iret (pc := 112) X rfl rfl (by decide) dX3_longestWay_112
  · refine r_iconst (pc := 8) X (-1) dX3_longestWay_8 (by decide) ?_
    exact r_iret (pc := 9) X rfl rfl (by decide) dX3_longestWay_9
theorem c_X3_longestWay (N : Nat) (lt b c ms rd m : Bd) (P : PL) (x1 : Int) (l : Launch) (D : va_G) (E : ET) (a : Int × Bd) (ha : f_X3_longestWay N ms P x1 = some a) : Ct l yX3_longestWay (Cond.code yX3_longestWay cX3_longestWay 6 (some .int) :: lw_g) ({ frames := 4, cells := 0, slots := 0, locals := 87 } : Room) D E [.ref (E.2.2.2 + 19), vG (E.2.2.2) x1] (Zw E lt b c ms rd m P) (Zw E lt b c a.2 rd m P) (some (vI a.1)) :=
  ct_of (av := fun E => [.ref (E.2.2.2 + 19), vG (E.2.2.2) x1]) (W0 := fun E => Zw E lt b c ms rd m P) (W1 := fun E (a : Int × Bd) => Zw E lt b c a.2 rd m P) (rw := fun E a => some (vI a.1)) (by decide) rfl (fun E => Zw_d E lt b c ms rd m P) (fun E => by simp [lg_sl, z_cat, z_catR, z_catI, z_catL]) (fun K X => r_lv (by simp [lv_args, z_cat, z_catR, z_catI, z_catL]) (t_X3_longestWay N lt b c ms rd m P x1 K X)) l D E a ha
abbrev Q_X3_treeHeads (K : KT) (lt b c ms rd m : Bd) (P : PL) : (Int × Bd) → State → Prop := Qm K ({ frames := 4, cells := 0, slots := 0, locals := 87 } : Room) (fun a : Int × Bd => Zw (kE K) lt b c a.2 rd m P) (fun a => some (vI a.1))
set_option maxRecDepth 100000 in
set_option maxHeartbeats 4000000 in
theorem t_X3_treeHeads_L55 (N : Nat) (lt b c ms rd m : Bd) (P : PL) (ms1 : Bd) (x1 x2 x3 x5 : Int) (K : KT) (X : Kok K cX3_treeHeads yX3_treeHeads.cls lw_g ({ frames := 4, cells := 0, slots := 0, locals := 87 } : Room) (some .int) 7) (k : Int → Option (Int × Bd)) (hk : ∀ (x4 : Int), Rn K (Q_X3_treeHeads K lt b c ms rd m P) 0 0 (k x4) 85 [(0, .ref (kB K + 19)), (1, vG (kB K) x1), (2, vI x2), (3, vI x3), (4, vI x4)] [] (Zw (kE K) lt b c ms1 rd m P)) : ∀ (n : Nat) (x4 : Int) (x6 : Int), Rn K (Q_X3_treeHeads K lt b c ms rd m P) 0 0 (f_X3_treeHeads_L55 ms1 P x1 x2 x3 x5 k n x4 x6) 55 [(0, .ref (kB K + 19)), (1, vG (kB K) x1), (2, vI x2), (3, vI x3), (4, vI x4), (5, vI x5), (6, vI x6)] [] (Zw (kE K) lt b c ms1 rd m P) := by
  intro n
  induction n with
  | zero =>
    intro x4 x6
    rw [f_X3_treeHeads_L55]
    exact r_none
  | succ n ih =>
    intro x4 x6
    rw [f_X3_treeHeads_L55]
    refine r_iload (pc := 55) X 6 dX3_treeHeads_55 rfl ?_
    refine r_iload (pc := 57) X 5 dX3_treeHeads_57 rfl ?_
    refine r_ck1 (fun h15 => ?_)
    refine r_ck1 (fun h16 => ?_)
    refine r_icmp_ge (pc := 59) X h15 h16 dX3_treeHeads_59 (tgt := 85) (by decide) (fun h17 => ?_) (fun h17 => ?_)
    · refine r_sub [0, 1, 2, 3, 4] rfl ?_
      exact hk x4
    · refine r_iload (pc := 62) X 4 dX3_treeHeads_62 rfl ?_
      refine r_aload_n (pc := 64) X 0 dX3_treeHeads_64 rfl rfl ?_
      refine r_get (pc := 65) (v := .ref (kB K + 20)) X 19 0 inX3 rfl rfl (by decide) tf_X3_9 rfl dX3_treeHeads_65 ?_
      refine r_gload_n (pc := 68) X 1 dX3_treeHeads_68 rfl rfl ?_
      refine r_iload_n (pc := 69) X 3 dX3_treeHeads_69 rfl rfl ?_
      refine r_iload (pc := 70) X 6 dX3_treeHeads_70 rfl ?_
      refine r_ckG (fun h18 => ?_)
      refine r_rf2 h18.1 ?_
      refine r_callV (pc := 72) (q0 := (62 + 2 * (x1).toNat)) (ci := 2) (As := [vI x3, vI x6]) (rest := [.ref (kB K + 20), vI x4]) (W' := fun q72_19 => (Zw (kE K) lt b c ms1 rd m P)) (rv := fun q72_19 => some (vI q72_19)) X dX3_treeHeads_72 rfl (fun a ha => c_X2_partAt N lt b c ms1 rd m P x1 h18 x3 x6 K.1.2.1 K.2.2.1.1 (kE K) a ha) (fun a => Zw_d _ _ _ _ _ _ _ _) gd_X3_50 rfl (n := 2) (by decide) rfl (by decide) rfl rfl (zg_gobj h18) (by simp [z_cat, z_catR, z_catI, z_catL]) (fun q72_19 eq72_19 => ?_)
      show Rn K _ 0 0 _ 75 [(0, .ref (kB K + 19)), (1, vG (kB K) x1), (2, vI x2), (3, vI x3), (4, vI x4), (5, vI x5), (6, vI x6)] [vI q72_19, .ref (kB K + 20), vI x4] (Zw (kE K) lt b c ms1 rd m P)
      refine r_ckA (fun h20 => ?_)
      refine r_iald (pc := 75) (f := ms1 0) X 20 h20 zl_40 rfl dX3_treeHeads_75 ?_
      refine r_iadd (pc := 76) X dX3_treeHeads_76 ?_
      refine r_istore (pc := 77) (lv' := [(0, .ref (kB K + 19)), (1, vG (kB K) x1), (2, vI x2), (3, vI x3), (4, vI (x4 + (ms1 0 q72_19))), (5, vI x5), (6, vI x6)]) X [1, 2, 3, 4, 0, 5, 6] dX3_treeHeads_77 (by decide) rfl ?_
      refine r_iinc (pc := 79) (lv' := [(0, .ref (kB K + 19)), (1, vG (kB K) x1), (2, vI x2), (3, vI x3), (4, vI (x4 + (ms1 0 q72_19))), (5, vI x5), (6, vI (x6 + 1))]) X 6 [1, 2, 3, 4, 5, 6, 0] dX3_treeHeads_79 rfl (by decide) rfl ?_
      refine r_goto (pc := 82) X dX3_treeHeads_82 (tgt := 55) (by decide) ?_
      exact ih (x4 + (ms1 0 q72_19)) (x6 + 1)
set_option maxRecDepth 100000 in
set_option maxHeartbeats 4000000 in
theorem t_X3_treeHeads_L34 (N : Nat) (lt b c ms rd m : Bd) (P : PL) (x1 x2 : Int) (K : KT) (X : Kok K cX3_treeHeads yX3_treeHeads.cls lw_g ({ frames := 4, cells := 0, slots := 0, locals := 87 } : Room) (some .int) 7) (k : Bd → Option (Int × Bd)) (hk : ∀ (ms1 : Bd), Rn K (Q_X3_treeHeads K lt b c ms rd m P) 0 0 (k ms1) 104 [(0, .ref (kB K + 19)), (1, vG (kB K) x1), (2, vI x2)] [] (Zw (kE K) lt b c ms1 rd m P)) : ∀ (n : Nat) (x3 : Int) (ms1 : Bd), Rn K (Q_X3_treeHeads K lt b c ms rd m P) 0 0 (f_X3_treeHeads_L34 N P x1 x2 k n x3 ms1) 34 [(0, .ref (kB K + 19)), (1, vG (kB K) x1), (2, vI x2), (3, vI x3)] [] (Zw (kE K) lt b c ms1 rd m P) := by
  intro n
  induction n with
  | zero =>
    intro x3 ms1
    rw [f_X3_treeHeads_L34]
    exact r_none
  | succ n ih =>
    intro x3 ms1
    rw [f_X3_treeHeads_L34]
    refine r_iload_n (pc := 34) X 3 dX3_treeHeads_34 rfl rfl ?_
    refine r_gload_n (pc := 35) X 1 dX3_treeHeads_35 rfl rfl ?_
    refine r_ckG (fun h10 => ?_)
    refine r_rf0 h10.1 ?_
    refine r_get (pc := 36) (v := vI ((gP P x1).1)) X (62 + 2 * (x1).toNat) 0 inX2 (zg_gobj h10) rfl (by decide) tf_X3_25 rfl dX3_treeHeads_36 ?_
    refine r_ck1 (fun h11 => ?_)
    refine r_ck1 (fun h12 => ?_)
    refine r_icmp_ge (pc := 39) X h11 h12 dX3_treeHeads_39 (tgt := 104) (by decide) (fun h13 => ?_) (fun h13 => ?_)
    · refine r_sub [0, 1, 2] rfl ?_
      exact hk ms1
    · refine r_iconst (pc := 42) X 1 dX3_treeHeads_42 (by decide) ?_
      refine r_istore (pc := 43) (lv' := [(0, .ref (kB K + 19)), (1, vG (kB K) x1), (2, vI x2), (3, vI x3), (4, vI 1)]) X [1, 2, 3, 4, 0] dX3_treeHeads_43 (by decide) rfl ?_
      refine r_gload_n (pc := 45) X 1 dX3_treeHeads_45 rfl rfl ?_
      refine r_iload_n (pc := 46) X 3 dX3_treeHeads_46 rfl rfl ?_
      refine r_rf1 h10.1 ?_
      refine r_callV (pc := 47) (q0 := (62 + 2 * (x1).toNat)) (ci := 2) (As := [vI x3]) (rest := []) (W' := fun q47_14 => (Zw (kE K) lt b c ms1 rd m P)) (rv := fun q47_14 => some (vI q47_14)) X dX3_treeHeads_47 rfl (fun a ha => c_X2_partCount N lt b c ms1 rd m P x1 h10 x3 K.1.2.1 K.2.2.1.1 (kE K) a ha) (fun a => Zw_d _ _ _ _ _ _ _ _) gd_X3_47 rfl (n := 1) (by decide) rfl (by decide) rfl rfl (zg_gobj h10) (Nat.zero_le _) (fun q47_14 eq47_14 => ?_)
      show Rn K _ 0 0 _ 50 [(0, .ref (kB K + 19)), (1, vG (kB K) x1), (2, vI x2), (3, vI x3), (4, vI 1)] [vI q47_14] (Zw (kE K) lt b c ms1 rd m P)
      refine r_istore (pc := 50) (lv' := [(0, .ref (kB K + 19)), (1, vG (kB K) x1), (2, vI x2), (3, vI x3), (4, vI 1), (5, vI q47_14)]) X [1, 2, 3, 4, 5, 0] dX3_treeHeads_50 (by decide) rfl ?_
      refine r_iconst (pc := 52) X 0 dX3_treeHeads_52 (by decide) ?_
      refine r_istore (pc := 53) (lv' := [(0, .ref (kB K + 19)), (1, vG (kB K) x1), (2, vI x2), (3, vI x3), (4, vI 1), (5, vI q47_14), (6, vI 0)]) X [1, 2, 3, 4, 5, 6, 0] dX3_treeHeads_53 (by decide) rfl ?_
      refine t_X3_treeHeads_L55 N lt b c ms rd m P ms1 x1 x2 x3 q47_14 K X _ ?_ N 1 0
      intro x4_55
      refine r_aload_n (pc := 85) X 0 dX3_treeHeads_85 rfl rfl ?_
      refine r_get (pc := 86) (v := .ref (kB K + 20)) X 19 0 inX3 rfl rfl (by decide) tf_X3_9 rfl dX3_treeHeads_86 ?_
      refine r_iload_n (pc := 89) X 3 dX3_treeHeads_89 rfl rfl ?_
      refine r_ldc (pc := 90) X 1000000 tk_X3_70 dX3_treeHeads_90 ?_
      refine r_iload (pc := 92) X 4 dX3_treeHeads_92 rfl ?_
      refine r_ck1 (fun h21 => ?_)
      refine r_min (pc := 94) X (by decide) h21 tl_X3_71 tt_min tn_math tc_min ⟨by decide, (by simp [z_cat, z_catR, z_catI, z_catL]), by decide, by decide⟩ dX3_treeHeads_94 ?_
      refine r_ckA (fun h22 => ?_)
      refine r_iast (pc := 97) (f := ms1 0) (ws' := (Zw (kE K) lt b c (bS ms1 0 (aS (ms1 0) x3 (min 1000000 x4_55))) rd m P)) X 20 h22 zl_40 rfl rfl dX3_treeHeads_97 ?_
      refine r_iinc (pc := 98) (lv' := [(0, .ref (kB K + 19)), (1, vG (kB K) x1), (2, vI x2), (3, vI (x3 + 1)), (4, vI x4_55)]) X 3 [1, 2, 3, 0, 4] dX3_treeHeads_98 rfl (by decide) rfl ?_
      refine r_goto (pc := 101) X dX3_treeHeads_101 (tgt := 34) (by decide) ?_
      refine r_sub [0, 1, 2, 3] rfl ?_
      exact ih (x3 + 1) (bS ms1 0 (aS (ms1 0) x3 (min 1000000 x4_55)))
set_option maxRecDepth 100000 in
set_option maxHeartbeats 4000000 in
theorem t_X3_treeHeads_L24 (N : Nat) (lt b c ms rd m : Bd) (P : PL) (x1 : Int) (K : KT) (X : Kok K cX3_treeHeads yX3_treeHeads.cls lw_g ({ frames := 4, cells := 0, slots := 0, locals := 87 } : Room) (some .int) 7) (k : Bd → Option (Int × Bd)) (hk : ∀ (ms1 : Bd), Rn K (Q_X3_treeHeads K lt b c ms rd m P) 0 0 (k ms1) 110 [(0, .ref (kB K + 19))] [] (Zw (kE K) lt b c ms1 rd m P)) : ∀ (n : Nat) (x2 : Int) (ms1 : Bd), Rn K (Q_X3_treeHeads K lt b c ms rd m P) 0 0 (f_X3_treeHeads_L24 N P x1 k n x2 ms1) 24 [(0, .ref (kB K + 19)), (1, vG (kB K) x1), (2, vI x2)] [] (Zw (kE K) lt b c ms1 rd m P) := by
  intro n
  induction n with
  | zero =>
    intro x2 ms1
    rw [f_X3_treeHeads_L24]
    exact r_none
  | succ n ih =>
    intro x2 ms1
    rw [f_X3_treeHeads_L24]
    refine r_iload_n (pc := 24) X 2 dX3_treeHeads_24 rfl rfl ?_
    refine r_gload_n (pc := 25) X 1 dX3_treeHeads_25 rfl rfl ?_
    refine r_ckG (fun h6 => ?_)
    refine r_rf0 h6.1 ?_
    refine r_get (pc := 26) (v := vI ((gP P x1).1)) X (62 + 2 * (x1).toNat) 0 inX2 (zg_gobj h6) rfl (by decide) tf_X3_25 rfl dX3_treeHeads_26 ?_
    refine r_ck1 (fun h7 => ?_)
    refine r_ck1 (fun h8 => ?_)
    refine r_icmp_ge (pc := 29) X h7 h8 dX3_treeHeads_29 (tgt := 110) (by decide) (fun h9 => ?_) (fun h9 => ?_)
    · refine r_sub [0] rfl ?_
      exact hk ms1
    · refine r_iconst (pc := 32) X 0 dX3_treeHeads_32 (by decide) ?_
      refine r_istore_n (pc := 33) (lv' := [(0, .ref (kB K + 19)), (1, vG (kB K) x1), (2, vI x2), (3, vI 0)]) X [1, 2, 3, 0] dX3_treeHeads_33 rfl (by decide) rfl ?_
      refine t_X3_treeHeads_L34 N lt b c ms rd m P  x1 x2 K X _ ?_ N 0 ms1
      intro ms_34
      refine r_iinc (pc := 104) (lv' := [(0, .ref (kB K + 19)), (1, vG (kB K) x1), (2, vI (x2 + 1))]) X 2 [1, 2, 0] dX3_treeHeads_104 rfl (by decide) (by simp [lv_pick, z_cat]) ?_
      refine r_goto (pc := 107) X dX3_treeHeads_107 (tgt := 24) (by decide) ?_
      exact ih (x2 + 1) ms_34
set_option maxRecDepth 100000 in
set_option maxHeartbeats 4000000 in
theorem t_X3_treeHeads (N : Nat) (lt b c ms rd m : Bd) (P : PL) (x1 : Int) (K : KT) (X : Kok K cX3_treeHeads yX3_treeHeads.cls lw_g ({ frames := 4, cells := 0, slots := 0, locals := 87 } : Room) (some .int) 7) : Rn K (Q_X3_treeHeads K lt b c ms rd m P) 0 0 (f_X3_treeHeads N ms P x1) 0 [(0, .ref (kB K + 19)), (1, vG (kB K) x1)] [] (Zw (kE K) lt b c ms rd m P) := by
  unfold f_X3_treeHeads
  refine r_aload_n (pc := 0) X 0 dX3_treeHeads_0 rfl rfl ?_
  refine r_gload_n (pc := 1) X 1 dX3_treeHeads_1 rfl rfl ?_
  refine r_callV (pc := 2) (q0 := 19) (ci := 3) (As := [vG (kB K) x1]) (rest := []) (W' := fun q2_1 => (Zw (kE K) lt b c q2_1.2 rd m P)) (rv := fun q2_1 => some (vI q2_1.1)) X dX3_treeHeads_2 rfl (fun a ha => c_X3_loopCount N lt b c ms rd m P x1 K.1.2.1 K.2.2.1.1 (kE K) a ha) (fun a => Zw_d _ _ _ _ _ _ _ _) gd_X3_61 rfl (n := 1) (by decide) rfl (by decide) rfl rfl rfl (Nat.zero_le _) (fun q2_1 eq2_1 => ?_)
  show Rn K _ 0 0 _ 5 [(0, .ref (kB K + 19)), (1, vG (kB K) x1)] [vI q2_1.1] (Zw (kE K) lt b c q2_1.2 rd m P)
  refine r_ck1 (fun h2 => ?_)
  refine r_ifle (pc := 5) X h2 dX3_treeHeads_5 (tgt := 10) (by decide) (fun h3 => ?_) (fun h3 => ?_)
  · refine r_aload_n (pc := 10) X 0 dX3_treeHeads_10 rfl rfl ?_
    refine r_get (pc := 11) (v := .ref (kB K + 20)) X 19 0 inX3 rfl rfl (by decide) tf_X3_9 rfl dX3_treeHeads_11 ?_
    refine r_gload_n (pc := 14) X 1 dX3_treeHeads_14 rfl rfl ?_
    refine r_ckG (fun h4 => ?_)
    refine r_rf0 h4.1 ?_
    refine r_get (pc := 15) (v := vI ((gP P x1).1)) X (62 + 2 * (x1).toNat) 0 inX2 (zg_gobj h4) rfl (by decide) tf_X3_25 rfl dX3_treeHeads_15 ?_
    refine r_iconst (pc := 18) X 1 dX3_treeHeads_18 (by decide) ?_
    refine r_callN (pc := 19) (As := [.ref (kB K + 20), vI ((gP P x1).1), vI 1]) (rest := []) (W' := fun q19_5 => (Zw (kE K) lt b c (bS q2_1.2 0 q19_5) rd m P)) (rv := fun _ => none) X dX3_treeHeads_19 rfl (fun a ha => c_X5_fillRow N (fun F0 => (Zw (kE K) lt b c (bS q2_1.2 0 F0) rd m P)) 20 (kB K + 20) 40 40 (q2_1.2 0) ((gP P x1).1) 1 K.1.2.1 K.2.2.1.1 (kE K) zl_40 (fun F0 => Zw_d _ _ _ _ _ _ _ _) (fun _ => rfl) (fun _ _ => rfl) a ha) (fun a => Zw_d _ _ _ _ _ _ _ _) (gd_c tc_X5_fillRow) (by decide) tt_X5_fillRow tn_RX5 rfl (n := 3) (by decide) rfl (by decide) (Nat.zero_le _) (fun q19_5 eq19_5 => ?_)
    show Rn K _ 0 0 _ 22 [(0, .ref (kB K + 19)), (1, vG (kB K) x1)] [] (Zw (kE K) lt b c (bS q2_1.2 0 q19_5) rd m P)
    refine r_iconst (pc := 22) X 0 dX3_treeHeads_22 (by decide) ?_
    refine r_istore_n (pc := 23) (i := 2) (lv' := [(0, .ref (kB K + 19)), (1, vG (kB K) x1), (2, vI 0)]) X [1, 2, 0] dX3_treeHeads_23 rfl (by decide) (by simp [lv_pick, z_cat]) ?_
    refine t_X3_treeHeads_L24 N lt b c ms rd m P  x1 K X _ ?_ N 0 (bS q2_1.2 0 q19_5)
    intro ms_24
    refine r_aload_n (pc := 110) X 0 dX3_treeHeads_110 rfl rfl ?_
    refine r_get (pc := 111) (v := .ref (kB K + 20)) X 19 0 inX3 rfl rfl (by decide) tf_X3_9 rfl dX3_treeHeads_111 ?_
    refine r_iconst (pc := 114) X 0 dX3_treeHeads_114 (by decide) ?_
    refine r_iald (pc := 115) (f := ms_24 0) X 20 (by decide) zl_40 rfl dX3_treeHeads_115 ?_
    exact r_iret (pc := 116) X rfl rfl (by decide) dX3_treeHeads_116
  · refine r_iconst (pc := 8) X (-1) dX3_treeHeads_8 (by decide) ?_
    exact r_iret (pc := 9) X rfl rfl (by decide) dX3_treeHeads_9
theorem c_X3_treeHeads (N : Nat) (lt b c ms rd m : Bd) (P : PL) (x1 : Int) (l : Launch) (D : va_G) (E : ET) (a : Int × Bd) (ha : f_X3_treeHeads N ms P x1 = some a) : Ct l yX3_treeHeads (Cond.code yX3_treeHeads cX3_treeHeads 7 (some .int) :: lw_g) ({ frames := 4, cells := 0, slots := 0, locals := 87 } : Room) D E [.ref (E.2.2.2 + 19), vG (E.2.2.2) x1] (Zw E lt b c ms rd m P) (Zw E lt b c a.2 rd m P) (some (vI a.1)) :=
  ct_of (av := fun E => [.ref (E.2.2.2 + 19), vG (E.2.2.2) x1]) (W0 := fun E => Zw E lt b c ms rd m P) (W1 := fun E (a : Int × Bd) => Zw E lt b c a.2 rd m P) (rw := fun E a => some (vI a.1)) (by decide) rfl (fun E => Zw_d E lt b c ms rd m P) (fun E => by simp [lg_sl, z_cat, z_catR, z_catI, z_catL]) (fun K X => r_lv (by simp [lv_args, z_cat, z_catR, z_catI, z_catL]) (t_X3_treeHeads N lt b c ms rd m P x1 K X)) l D E a ha
abbrev Q_X3_leastHere (K : KT) (lt b c ms rd m : Bd) (P : PL) : (Int) → State → Prop := Qm K ({ frames := 2, cells := 0, slots := 0, locals := 43 } : Room) (fun a : Int => Zw (kE K) lt b c ms rd m P) (fun a => some (vI a))
set_option maxRecDepth 100000 in
set_option maxHeartbeats 4000000 in
theorem t_X3_leastHere (N : Nat) (lt b c ms rd m : Bd) (P : PL) (x1 x2 : Int) (K : KT) (X : Kok K cX3_leastHere yX3_leastHere.cls lw_g ({ frames := 2, cells := 0, slots := 0, locals := 43 } : Room) (some .int) 6) : Rn K (Q_X3_leastHere K lt b c ms rd m P) 0 0 (f_X3_leastHere ms P x1 x2) 0 [(0, .ref (kB K + 19)), (1, vG (kB K) x1), (2, vI x2)] [] (Zw (kE K) lt b c ms rd m P) := by
  unfold f_X3_leastHere
  refine r_gload_n (pc := 0) X 1 dX3_leastHere_0 rfl rfl ?_
  refine r_iload_n (pc := 1) X 2 dX3_leastHere_1 rfl rfl ?_
  refine r_ckG (fun h1 => ?_)
  refine r_rf1 h1.1 ?_
  refine r_callV (pc := 2) (q0 := (62 + 2 * (x1).toNat)) (ci := 2) (As := [vI x2]) (rest := []) (W' := fun q2_2 => (Zw (kE K) lt b c ms rd m P)) (rv := fun q2_2 => some (vI q2_2)) X dX3_leastHere_2 rfl (fun a ha => c_X2_headAt N lt b c ms rd m P x1 h1 x2 K.1.2.1 K.2.2.1.1 (kE K) a ha) (fun a => Zw_d _ _ _ _ _ _ _ _) gd_X3_43 rfl (n := 1) (by decide) rfl (by decide) rfl rfl (zg_gobj h1) (Nat.zero_le _) (fun q2_2 eq2_2 => ?_)
  show Rn K _ 0 0 _ 5 [(0, .ref (kB K + 19)), (1, vG (kB K) x1), (2, vI x2)] [vI q2_2] (Zw (kE K) lt b c ms rd m P)
  refine r_istore_n (pc := 5) (lv' := [(0, .ref (kB K + 19)), (1, vG (kB K) x1), (2, vI x2), (3, vI q2_2)]) X [1, 2, 3, 0] dX3_leastHere_5 rfl (by decide) rfl ?_
  refine r_iload_n (pc := 6) X 3 dX3_leastHere_6 rfl rfl ?_
  refine r_ck1 (fun h3 => ?_)
  refine r_ifne (pc := 7) X h3 dX3_leastHere_7 (tgt := 12) (by decide) (fun h4 => ?_) (fun h4 => ?_)
  · refine r_iload_n (pc := 12) X 3 dX3_leastHere_12 rfl rfl ?_
    refine r_iconst (pc := 13) X 5 dX3_leastHere_13 (by decide) ?_
    refine r_icmp_eq (pc := 14) X h3 (by decide) dX3_leastHere_14 (tgt := 19) (by decide) (fun h5 => ?_) (fun h5 => ?_)
    · refine r_aload_n (pc := 19) X 0 dX3_leastHere_19 rfl rfl ?_
      refine r_get (pc := 20) (v := .ref (kB K + 20)) X 19 0 inX3 rfl rfl (by decide) tf_X3_9 rfl dX3_leastHere_20 ?_
      refine r_gload_n (pc := 23) X 1 dX3_leastHere_23 rfl rfl ?_
      refine r_iload_n (pc := 24) X 2 dX3_leastHere_24 rfl rfl ?_
      refine r_iconst (pc := 25) X 0 dX3_leastHere_25 (by decide) ?_
      refine r_rf2 h1.1 ?_
      refine r_callV (pc := 26) (q0 := (62 + 2 * (x1).toNat)) (ci := 2) (As := [vI x2, vI 0]) (rest := [.ref (kB K + 20)]) (W' := fun q26_6 => (Zw (kE K) lt b c ms rd m P)) (rv := fun q26_6 => some (vI q26_6)) X dX3_leastHere_26 rfl (fun a ha => c_X2_partAt N lt b c ms rd m P x1 h1 x2 0 K.1.2.1 K.2.2.1.1 (kE K) a ha) (fun a => Zw_d _ _ _ _ _ _ _ _) gd_X3_50 rfl (n := 2) (by decide) rfl (by decide) rfl rfl (zg_gobj h1) (by simp [z_cat, z_catR, z_catI, z_catL]) (fun q26_6 eq26_6 => ?_)
      show Rn K _ 0 0 _ 29 [(0, .ref (kB K + 19)), (1, vG (kB K) x1), (2, vI x2), (3, vI q2_2)] [vI q26_6, .ref (kB K + 20)] (Zw (kE K) lt b c ms rd m P)
      refine r_ckA (fun h7 => ?_)
      refine r_iald (pc := 29) (f := ms 0) X 20 h7 zl_40 rfl dX3_leastHere_29 ?_
      refine r_istore (pc := 30) (lv' := [(0, .ref (kB K + 19)), (1, vG (kB K) x1), (2, vI x2), (3, vI q2_2), (4, vI (ms 0 q26_6))]) X [1, 2, 3, 4, 0] dX3_leastHere_30 (by decide) rfl ?_
      refine r_aload_n (pc := 32) X 0 dX3_leastHere_32 rfl rfl ?_
      refine r_get (pc := 33) (v := .ref (kB K + 20)) X 19 0 inX3 rfl rfl (by decide) tf_X3_9 rfl dX3_leastHere_33 ?_
      refine r_gload_n (pc := 36) X 1 dX3_leastHere_36 rfl rfl ?_
      refine r_iload_n (pc := 37) X 2 dX3_leastHere_37 rfl rfl ?_
      refine r_iconst (pc := 38) X 1 dX3_leastHere_38 (by decide) ?_
      refine r_rf2 h1.1 ?_
      refine r_callV (pc := 39) (q0 := (62 + 2 * (x1).toNat)) (ci := 2) (As := [vI x2, vI 1]) (rest := [.ref (kB K + 20)]) (W' := fun q39_8 => (Zw (kE K) lt b c ms rd m P)) (rv := fun q39_8 => some (vI q39_8)) X dX3_leastHere_39 rfl (fun a ha => c_X2_partAt N lt b c ms rd m P x1 h1 x2 1 K.1.2.1 K.2.2.1.1 (kE K) a ha) (fun a => Zw_d _ _ _ _ _ _ _ _) gd_X3_50 rfl (n := 2) (by decide) rfl (by decide) rfl rfl (zg_gobj h1) (by simp [z_cat, z_catR, z_catI, z_catL]) (fun q39_8 eq39_8 => ?_)
      show Rn K _ 0 0 _ 42 [(0, .ref (kB K + 19)), (1, vG (kB K) x1), (2, vI x2), (3, vI q2_2), (4, vI (ms 0 q26_6))] [vI q39_8, .ref (kB K + 20)] (Zw (kE K) lt b c ms rd m P)
      refine r_ckA (fun h9 => ?_)
      refine r_iald (pc := 42) (f := ms 0) X 20 h9 zl_40 rfl dX3_leastHere_42 ?_
      refine r_istore (pc := 43) (lv' := [(0, .ref (kB K + 19)), (1, vG (kB K) x1), (2, vI x2), (3, vI q2_2), (4, vI (ms 0 q26_6)), (5, vI (ms 0 q39_8))]) X [1, 2, 3, 4, 5, 0] dX3_leastHere_43 (by decide) rfl ?_
      refine r_iload (pc := 45) X 4 dX3_leastHere_45 rfl ?_
      refine r_iconst (pc := 47) X (-1) dX3_leastHere_47 (by decide) ?_
      refine r_ck1 (fun h10 => ?_)
      refine r_icmp_eq (pc := 48) X h10 (by decide) dX3_leastHere_48 (tgt := 57) (by decide) (fun h11 => ?_) (fun h11 => ?_)
      · refine r_iconst (pc := 57) X (-1) dX3_leastHere_57 (by decide) ?_
        exact r_iret (pc := 58) X rfl rfl (by decide) dX3_leastHere_58
      · refine r_iload (pc := 51) X 5 dX3_leastHere_51 rfl ?_
        refine r_iconst (pc := 53) X (-1) dX3_leastHere_53 (by decide) ?_
        refine r_ck1 (fun h12 => ?_)
        refine r_icmp_ne (pc := 54) X h12 (by decide) dX3_leastHere_54 (tgt := 59) (by decide) (fun h13 => ?_) (fun h13 => ?_)
        · refine r_ldc (pc := 59) X 1000000 tk_X3_70 dX3_leastHere_59 ?_
          refine r_iconst (pc := 61) X 1 dX3_leastHere_61 (by decide) ?_
          refine r_iload (pc := 62) X 4 dX3_leastHere_62 rfl ?_
          refine r_iadd (pc := 64) X dX3_leastHere_64 ?_
          refine r_iload (pc := 65) X 5 dX3_leastHere_65 rfl ?_
          refine r_iadd (pc := 67) X dX3_leastHere_67 ?_
          refine r_ck1 (fun h14 => ?_)
          refine r_min (pc := 68) X (by decide) h14 tl_X3_71 tt_min tn_math tc_min ⟨by decide, (by simp [z_cat, z_catR, z_catI, z_catL]), by decide, by decide⟩ dX3_leastHere_68 ?_
          exact r_iret (pc := 71) X rfl rfl (by decide) dX3_leastHere_71
        · refine r_iconst (pc := 57) X (-1) dX3_leastHere_57 (by decide) ?_
          exact r_iret (pc := 58) X rfl rfl (by decide) dX3_leastHere_58
    · refine r_iconst (pc := 17) X 1 dX3_leastHere_17 (by decide) ?_
      exact r_iret (pc := 18) X rfl rfl (by decide) dX3_leastHere_18
  · refine r_iconst (pc := 10) X (-1) dX3_leastHere_10 (by decide) ?_
    exact r_iret (pc := 11) X rfl rfl (by decide) dX3_leastHere_11
theorem c_X3_leastHere (N : Nat) (lt b c ms rd m : Bd) (P : PL) (x1 x2 : Int) (l : Launch) (D : va_G) (E : ET) (a : Int) (ha : f_X3_leastHere ms P x1 x2 = some a) : Ct l yX3_leastHere (Cond.code yX3_leastHere cX3_leastHere 6 (some .int) :: lw_g) ({ frames := 2, cells := 0, slots := 0, locals := 43 } : Room) D E [.ref (E.2.2.2 + 19), vG (E.2.2.2) x1, vI x2] (Zw E lt b c ms rd m P) (Zw E lt b c ms rd m P) (some (vI a)) :=
  ct_of (av := fun E => [.ref (E.2.2.2 + 19), vG (E.2.2.2) x1, vI x2]) (W0 := fun E => Zw E lt b c ms rd m P) (W1 := fun E (a : Int) => Zw E lt b c ms rd m P) (rw := fun E a => some (vI a)) (by decide) rfl (fun E => Zw_d E lt b c ms rd m P) (fun E => by simp [lg_sl, z_cat, z_catR, z_catI, z_catL]) (fun K X => r_lv (by simp [lv_args, z_cat, z_catR, z_catI, z_catL]) (t_X3_leastHere N lt b c ms rd m P x1 x2 K X)) l D E a ha
abbrev Q_X3_leastValue (K : KT) (lt b c ms rd m : Bd) (P : PL) : (Int × Bd) → State → Prop := Qm K ({ frames := 3, cells := 0, slots := 0, locals := 68 } : Room) (fun a : Int × Bd => Zw (kE K) lt b c a.2 rd m P) (fun a => some (vI a.1))
set_option maxRecDepth 100000 in
set_option maxHeartbeats 4000000 in
theorem t_X3_leastValue_L31 (N : Nat) (lt b c ms rd m : Bd) (P : PL) (x1 x3 : Int) (K : KT) (X : Kok K cX3_leastValue yX3_leastValue.cls lw_g ({ frames := 3, cells := 0, slots := 0, locals := 68 } : Room) (some .int) 5) (k : Int → Bd → Option (Int × Bd)) (hk : ∀ (x2 : Int) (ms1 : Bd), Rn K (Q_X3_leastValue K lt b c ms rd m P) 0 0 (k x2 ms1) 90 [(0, .ref (kB K + 19)), (1, vG (kB K) x1), (2, vI x2), (3, vI x3)] [] (Zw (kE K) lt b c ms1 rd m P)) : ∀ (n : Nat) (x2 : Int) (x4 : Int) (ms1 : Bd), Rn K (Q_X3_leastValue K lt b c ms rd m P) 0 0 (f_X3_leastValue_L31 P x1 x3 k n x2 x4 ms1) 31 [(0, .ref (kB K + 19)), (1, vG (kB K) x1), (2, vI x2), (3, vI x3), (4, vI x4)] [] (Zw (kE K) lt b c ms1 rd m P) := by
  intro n
  induction n with
  | zero =>
    intro x2 x4 ms1
    rw [f_X3_leastValue_L31]
    exact r_none
  | succ n ih =>
    intro x2 x4 ms1
    rw [f_X3_leastValue_L31]
    refine r_iload (pc := 31) X 4 dX3_leastValue_31 rfl ?_
    refine r_gload_n (pc := 33) X 1 dX3_leastValue_33 rfl rfl ?_
    refine r_ckG (fun h7 => ?_)
    refine r_rf0 h7.1 ?_
    refine r_get (pc := 34) (v := vI ((gP P x1).1)) X (62 + 2 * (x1).toNat) 0 inX2 (zg_gobj h7) rfl (by decide) tf_X3_25 rfl dX3_leastValue_34 ?_
    refine r_ck1 (fun h8 => ?_)
    refine r_ck1 (fun h9 => ?_)
    refine r_icmp_ge (pc := 37) X h8 h9 dX3_leastValue_37 (tgt := 90) (by decide) (fun h10 => ?_) (fun h10 => ?_)
    · refine r_sub [0, 1, 2, 3] rfl ?_
      exact hk x2 ms1
    · refine r_aload_n (pc := 40) X 0 dX3_leastValue_40 rfl rfl ?_
      refine r_get (pc := 41) (v := .ref (kB K + 20)) X 19 0 inX3 rfl rfl (by decide) tf_X3_9 rfl dX3_leastValue_41 ?_
      refine r_iload (pc := 44) X 4 dX3_leastValue_44 rfl ?_
      refine r_ckA (fun h11 => ?_)
      refine r_iald (pc := 46) (f := ms1 0) X 20 h11 zl_40 rfl dX3_leastValue_46 ?_
      refine r_iconst (pc := 47) X (-1) dX3_leastValue_47 (by decide) ?_
      refine r_ck1 (fun h12 => ?_)
      refine r_icmp_ne (pc := 48) X h12 (by decide) dX3_leastValue_48 (tgt := 84) (by decide) (fun h13 => ?_) (fun h13 => ?_)
      · refine r_iinc (pc := 84) (lv' := [(0, .ref (kB K + 19)), (1, vG (kB K) x1), (2, vI x2), (3, vI x3), (4, vI (x4 + 1))]) X 4 [1, 2, 3, 4, 0] dX3_leastValue_84 rfl (by decide) rfl ?_
        refine r_goto (pc := 87) X dX3_leastValue_87 (tgt := 31) (by decide) ?_
        exact ih x2 (x4 + 1) ms1
      · refine r_aload_n (pc := 51) X 0 dX3_leastValue_51 rfl rfl ?_
        refine r_get (pc := 52) (v := .ref (kB K + 20)) X 19 0 inX3 rfl rfl (by decide) tf_X3_9 rfl dX3_leastValue_52 ?_
        refine r_iload (pc := 55) X 4 dX3_leastValue_55 rfl ?_
        refine r_aload_n (pc := 57) X 0 dX3_leastValue_57 rfl rfl ?_
        refine r_gload_n (pc := 58) X 1 dX3_leastValue_58 rfl rfl ?_
        refine r_iload (pc := 59) X 4 dX3_leastValue_59 rfl ?_
        refine r_callV (pc := 61) (q0 := 19) (ci := 3) (As := [vG (kB K) x1, vI x4]) (rest := [vI x4, .ref (kB K + 20)]) (W' := fun q61_14 => (Zw (kE K) lt b c ms1 rd m P)) (rv := fun q61_14 => some (vI q61_14)) X dX3_leastValue_61 rfl (fun a ha => c_X3_leastHere N lt b c ms1 rd m P x1 x4 K.1.2.1 K.2.2.1.1 (kE K) a ha) (fun a => Zw_d _ _ _ _ _ _ _ _) gd_X3_74 rfl (n := 2) (by decide) rfl (by decide) rfl rfl rfl (by simp [z_cat, z_catR, z_catI, z_catL]) (fun q61_14 eq61_14 => ?_)
        show Rn K _ 0 0 _ 64 [(0, .ref (kB K + 19)), (1, vG (kB K) x1), (2, vI x2), (3, vI x3), (4, vI x4)] [vI q61_14, vI x4, .ref (kB K + 20)] (Zw (kE K) lt b c ms1 rd m P)
        refine r_iast (pc := 64) (f := ms1 0) (ws' := (Zw (kE K) lt b c (bS ms1 0 (aS (ms1 0) x4 q61_14)) rd m P)) X 20 h11 zl_40 rfl rfl dX3_leastValue_64 ?_
        refine r_iload_n (pc := 65) X 2 dX3_leastValue_65 rfl rfl ?_
        refine r_aload_n (pc := 66) X 0 dX3_leastValue_66 rfl rfl ?_
        refine r_get (pc := 67) (v := .ref (kB K + 20)) X 19 0 inX3 rfl rfl (by decide) tf_X3_9 rfl dX3_leastValue_67 ?_
        refine r_iload (pc := 70) X 4 dX3_leastValue_70 rfl ?_
        refine r_iald (pc := 72) (f := aS (ms1 0) x4 q61_14) X 20 h11 zl_40 rfl dX3_leastValue_72 ?_
        refine r_iconst (pc := 73) X (-1) dX3_leastValue_73 (by decide) ?_
        refine r_ck1 (fun h15 => ?_)
        refine r_jn (J := fun j82 => ∀ (s_82 : Int), Rn K (Q_X3_leastValue K lt b c ms rd m P) 0 0 (j82 s_82) 82 [(0, .ref (kB K + 19)), (1, vG (kB K) x1), (2, vI x2), (3, vI x3), (4, vI x4)] [vI s_82, vI x2] (Zw (kE K) lt b c (bS ms1 0 (aS (ms1 0) x4 q61_14)) rd m P)) ?_ (fun j82 hj82 => ?_)
        · intro s_82
          refine r_ior (pc := 82) X dX3_leastValue_82 ?_
          refine r_istore_n (pc := 83) (i := 2) (lv' := [(0, .ref (kB K + 19)), (1, vG (kB K) x1), (2, vI (i_or x2 s_82)), (3, vI x3), (4, vI x4)]) X [1, 2, 0, 3, 4] dX3_leastValue_83 rfl (by decide) (by simp [lv_pick, z_cat]) ?_
          refine r_iinc (pc := 84) (lv' := [(0, .ref (kB K + 19)), (1, vG (kB K) x1), (2, vI (i_or x2 s_82)), (3, vI x3), (4, vI (x4 + 1))]) X 4 [1, 2, 3, 4, 0] dX3_leastValue_84 rfl (by decide) rfl ?_
          refine r_goto (pc := 87) X dX3_leastValue_87 (tgt := 31) (by decide) ?_
          exact ih (i_or x2 s_82) (x4 + 1) (bS ms1 0 (aS (ms1 0) x4 q61_14))
        refine r_eq (z_ite j82) ?_
        refine r_icmp_eq (pc := 74) X h15 (by decide) dX3_leastValue_74 (tgt := 81) (by decide) (fun h16 => ?_) (fun h16 => ?_)
        · refine r_iconst (pc := 81) X 0 dX3_leastValue_81 (by decide) ?_
          exact hj82 0
        · refine r_iconst (pc := 77) X 1 dX3_leastValue_77 (by decide) ?_
          refine r_goto (pc := 78) X dX3_leastValue_78 (tgt := 82) (by decide) ?_
          exact hj82 1
set_option maxRecDepth 100000 in
set_option maxHeartbeats 4000000 in
theorem t_X3_leastValue_L16 (N : Nat) (lt b c ms rd m : Bd) (P : PL) (x1 : Int) (K : KT) (X : Kok K cX3_leastValue yX3_leastValue.cls lw_g ({ frames := 3, cells := 0, slots := 0, locals := 68 } : Room) (some .int) 5) (k : Bd → Option (Int × Bd)) (hk : ∀ (ms1 : Bd), Rn K (Q_X3_leastValue K lt b c ms rd m P) 0 0 (k ms1) 96 [(0, .ref (kB K + 19))] [] (Zw (kE K) lt b c ms1 rd m P)) : ∀ (n : Nat) (x2 : Int) (x3 : Int) (ms1 : Bd), Rn K (Q_X3_leastValue K lt b c ms rd m P) 0 0 (f_X3_leastValue_L16 N P x1 k n x2 x3 ms1) 16 [(0, .ref (kB K + 19)), (1, vG (kB K) x1), (2, vI x2), (3, vI x3)] [] (Zw (kE K) lt b c ms1 rd m P) := by
  intro n
  induction n with
  | zero =>
    intro x2 x3 ms1
    rw [f_X3_leastValue_L16]
    exact r_none
  | succ n ih =>
    intro x2 x3 ms1
    rw [f_X3_leastValue_L16]
    refine r_iload_n (pc := 16) X 2 dX3_leastValue_16 rfl rfl ?_
    refine r_ck1 (fun h3 => ?_)
    refine r_ifeq (pc := 17) X h3 dX3_leastValue_17 (tgt := 96) (by decide) (fun h4 => ?_) (fun h4 => ?_)
    · refine r_sub [0] rfl ?_
      exact hk ms1
    · refine r_iload_n (pc := 20) X 3 dX3_leastValue_20 rfl rfl ?_
      refine r_bipush (pc := 21) X 40 dX3_leastValue_21 (by decide) ?_
      refine r_ck1 (fun h5 => ?_)
      refine r_icmp_gt (pc := 23) X h5 (by decide) dX3_leastValue_23 (tgt := 96) (by decide) (fun h6 => ?_) (fun h6 => ?_)
      · refine r_sub [0] rfl ?_
        exact hk ms1
      · refine r_iconst (pc := 26) X 0 dX3_leastValue_26 (by decide) ?_
        refine r_istore_n (pc := 27) (i := 2) (lv' := [(0, .ref (kB K + 19)), (1, vG (kB K) x1), (2, vI 0), (3, vI x3)]) X [1, 2, 0, 3] dX3_leastValue_27 rfl (by decide) (by simp [lv_pick, z_cat]) ?_
        refine r_iconst (pc := 28) X 0 dX3_leastValue_28 (by decide) ?_
        refine r_istore (pc := 29) (lv' := [(0, .ref (kB K + 19)), (1, vG (kB K) x1), (2, vI 0), (3, vI x3), (4, vI 0)]) X [1, 2, 3, 4, 0] dX3_leastValue_29 (by decide) rfl ?_
        refine t_X3_leastValue_L31 N lt b c ms rd m P  x1 x3 K X _ ?_ N 0 0 ms1
        intro x2_31 ms_31
        refine r_iinc (pc := 90) (lv' := [(0, .ref (kB K + 19)), (1, vG (kB K) x1), (2, vI x2_31), (3, vI (x3 + 1))]) X 3 [1, 2, 3, 0] dX3_leastValue_90 rfl (by decide) rfl ?_
        refine r_goto (pc := 93) X dX3_leastValue_93 (tgt := 16) (by decide) ?_
        exact ih x2_31 (x3 + 1) ms_31
set_option maxRecDepth 100000 in
set_option maxHeartbeats 4000000 in
theorem t_X3_leastValue (N : Nat) (lt b c ms rd m : Bd) (P : PL) (x1 : Int) (K : KT) (X : Kok K cX3_leastValue yX3_leastValue.cls lw_g ({ frames := 3, cells := 0, slots := 0, locals := 68 } : Room) (some .int) 5) : Rn K (Q_X3_leastValue K lt b c ms rd m P) 0 0 (f_X3_leastValue N ms P x1) 0 [(0, .ref (kB K + 19)), (1, vG (kB K) x1)] [] (Zw (kE K) lt b c ms rd m P) := by
  unfold f_X3_leastValue
  refine r_aload_n (pc := 0) X 0 dX3_leastValue_0 rfl rfl ?_
  refine r_get (pc := 1) (v := .ref (kB K + 20)) X 19 0 inX3 rfl rfl (by decide) tf_X3_9 rfl dX3_leastValue_1 ?_
  refine r_gload_n (pc := 4) X 1 dX3_leastValue_4 rfl rfl ?_
  refine r_ckG (fun h1 => ?_)
  refine r_rf0 h1.1 ?_
  refine r_get (pc := 5) (v := vI ((gP P x1).1)) X (62 + 2 * (x1).toNat) 0 inX2 (zg_gobj h1) rfl (by decide) tf_X3_25 rfl dX3_leastValue_5 ?_
  refine r_iconst (pc := 8) X (-1) dX3_leastValue_8 (by decide) ?_
  refine r_callN (pc := 9) (As := [.ref (kB K + 20), vI ((gP P x1).1), vI (-1)]) (rest := []) (W' := fun q9_2 => (Zw (kE K) lt b c (bS ms 0 q9_2) rd m P)) (rv := fun _ => none) X dX3_leastValue_9 rfl (fun a ha => c_X5_fillRow N (fun F0 => (Zw (kE K) lt b c (bS ms 0 F0) rd m P)) 20 (kB K + 20) 40 40 (ms 0) ((gP P x1).1) (-1) K.1.2.1 K.2.2.1.1 (kE K) zl_40 (fun F0 => Zw_d _ _ _ _ _ _ _ _) (fun _ => rfl) (fun _ _ => rfl) a ha) (fun a => Zw_d _ _ _ _ _ _ _ _) (gd_c tc_X5_fillRow) (by decide) tt_X5_fillRow tn_RX5 rfl (n := 3) (by decide) rfl (by decide) (Nat.zero_le _) (fun q9_2 eq9_2 => ?_)
  show Rn K _ 0 0 _ 12 [(0, .ref (kB K + 19)), (1, vG (kB K) x1)] [] (Zw (kE K) lt b c (bS ms 0 q9_2) rd m P)
  refine r_iconst (pc := 12) X 1 dX3_leastValue_12 (by decide) ?_
  refine r_istore_n (pc := 13) (i := 2) (lv' := [(0, .ref (kB K + 19)), (1, vG (kB K) x1), (2, vI 1)]) X [1, 2, 0] dX3_leastValue_13 rfl (by decide) (by simp [lv_pick, z_cat]) ?_
  refine r_iconst (pc := 14) X 0 dX3_leastValue_14 (by decide) ?_
  refine r_istore_n (pc := 15) (lv' := [(0, .ref (kB K + 19)), (1, vG (kB K) x1), (2, vI 1), (3, vI 0)]) X [1, 2, 3, 0] dX3_leastValue_15 rfl (by decide) rfl ?_
  refine t_X3_leastValue_L16 N lt b c ms rd m P  x1 K X _ ?_ N 1 0 (bS ms 0 q9_2)
  intro ms_16
  refine r_aload_n (pc := 96) X 0 dX3_leastValue_96 rfl rfl ?_
  refine r_get (pc := 97) (v := .ref (kB K + 20)) X 19 0 inX3 rfl rfl (by decide) tf_X3_9 rfl dX3_leastValue_97 ?_
  refine r_iconst (pc := 100) X 0 dX3_leastValue_100 (by decide) ?_
  refine r_iald (pc := 101) (f := ms_16 0) X 20 (by decide) zl_40 rfl dX3_leastValue_101 ?_
  exact r_iret (pc := 102) X rfl rfl (by decide) dX3_leastValue_102
theorem c_X3_leastValue (N : Nat) (lt b c ms rd m : Bd) (P : PL) (x1 : Int) (l : Launch) (D : va_G) (E : ET) (a : Int × Bd) (ha : f_X3_leastValue N ms P x1 = some a) : Ct l yX3_leastValue (Cond.code yX3_leastValue cX3_leastValue 5 (some .int) :: lw_g) ({ frames := 3, cells := 0, slots := 0, locals := 68 } : Room) D E [.ref (E.2.2.2 + 19), vG (E.2.2.2) x1] (Zw E lt b c ms rd m P) (Zw E lt b c a.2 rd m P) (some (vI a.1)) :=
  ct_of (av := fun E => [.ref (E.2.2.2 + 19), vG (E.2.2.2) x1]) (W0 := fun E => Zw E lt b c ms rd m P) (W1 := fun E (a : Int × Bd) => Zw E lt b c a.2 rd m P) (rw := fun E a => some (vI a.1)) (by decide) rfl (fun E => Zw_d E lt b c ms rd m P) (fun E => by simp [lg_sl, z_cat, z_catR, z_catI, z_catL]) (fun K X => r_lv (by simp [lv_args, z_cat, z_catR, z_catI, z_catL]) (t_X3_leastValue N lt b c ms rd m P x1 K X)) l D E a ha
abbrev Q_X3_passSigns (K : KT) (lt b c ms rd m : Bd) (P : PL) : (Int × Bd) → State → Prop := Qm K ({ frames := 2, cells := 0, slots := 0, locals := 43 } : Room) (fun a : Int × Bd => Zw (kE K) lt b c a.2 rd m P) (fun a => some (vI a.1))
set_option maxRecDepth 100000 in
set_option maxHeartbeats 4000000 in
theorem t_X3_passSigns_L19 (N : Nat) (lt b c ms rd m : Bd) (P : PL) (x1 x2 x4 x5 : Int) (K : KT) (X : Kok K cX3_passSigns yX3_passSigns.cls lw_g ({ frames := 2, cells := 0, slots := 0, locals := 43 } : Room) (some .boolean) 9) (k : Int → Bd → Option (Int × Bd)) (hk : ∀ (x3 : Int) (ms1 : Bd), Rn K (Q_X3_passSigns K lt b c ms rd m P) 0 0 (k x3 ms1) 108 [(3, vI x3)] [] (Zw (kE K) lt b c ms1 rd m P)) : ∀ (n : Nat) (x3 : Int) (x6 : Int) (ms1 : Bd), Rn K (Q_X3_passSigns K lt b c ms rd m P) 0 0 (f_X3_passSigns_L19 P x1 x2 x4 x5 k n x3 x6 ms1) 19 [(0, .ref (kB K + 19)), (1, vG (kB K) x1), (2, vI x2), (3, vI x3), (4, vI x4), (5, vI x5), (6, vI x6)] [] (Zw (kE K) lt b c ms1 rd m P) := by
  intro n
  induction n with
  | zero =>
    intro x3 x6 ms1
    rw [f_X3_passSigns_L19]
    exact r_none
  | succ n ih =>
    intro x3 x6 ms1
    rw [f_X3_passSigns_L19]
    refine r_iload (pc := 19) X 6 dX3_passSigns_19 rfl ?_
    refine r_iload (pc := 21) X 5 dX3_passSigns_21 rfl ?_
    refine r_ck1 (fun h4 => ?_)
    refine r_ck1 (fun h5 => ?_)
    refine r_icmp_ge (pc := 23) X h4 h5 dX3_passSigns_23 (tgt := 108) (by decide) (fun h6 => ?_) (fun h6 => ?_)
    · refine r_sub [3] rfl ?_
      exact hk x3 ms1
    · refine r_aload_n (pc := 26) X 0 dX3_passSigns_26 rfl rfl ?_
      refine r_get (pc := 27) (v := .ref (kB K + 20)) X 19 0 inX3 rfl rfl (by decide) tf_X3_9 rfl dX3_passSigns_27 ?_
      refine r_iload_n (pc := 30) X 2 dX3_passSigns_30 rfl rfl ?_
      refine r_ckA (fun h7 => ?_)
      refine r_iald (pc := 31) (f := ms1 0) X 20 h7 zl_40 rfl dX3_passSigns_31 ?_
      refine r_istore (pc := 32) (lv' := [(0, .ref (kB K + 19)), (1, vG (kB K) x1), (2, vI x2), (3, vI x3), (4, vI x4), (5, vI x5), (6, vI x6), (7, vI (ms1 0 x2))]) X [1, 2, 3, 4, 5, 6, 7, 0] dX3_passSigns_32 (by decide) rfl ?_
      refine r_iload (pc := 34) X 4 dX3_passSigns_34 rfl ?_
      refine r_bipush (pc := 36) X 6 dX3_passSigns_36 (by decide) ?_
      refine r_jn (J := fun j59 => ∀ (x7_59 : Int), Rn K (Q_X3_passSigns K lt b c ms rd m P) 0 0 (j59 x7_59) 59 [(0, .ref (kB K + 19)), (1, vG (kB K) x1), (2, vI x2), (3, vI x3), (4, vI x4), (5, vI x5), (6, vI x6), (7, vI x7_59)] [] (Zw (kE K) lt b c ms1 rd m P)) ?_ (fun j59 hj59 => ?_)
      · intro x7_59
        refine r_gload_n (pc := 59) X 1 dX3_passSigns_59 rfl rfl ?_
        refine r_iload_n (pc := 60) X 2 dX3_passSigns_60 rfl rfl ?_
        refine r_iload (pc := 61) X 6 dX3_passSigns_61 rfl ?_
        refine r_ckG (fun h8 => ?_)
        refine r_rf2 h8.1 ?_
        refine r_callV (pc := 63) (q0 := (62 + 2 * (x1).toNat)) (ci := 2) (As := [vI x2, vI x6]) (rest := []) (W' := fun q63_9 => (Zw (kE K) lt b c ms1 rd m P)) (rv := fun q63_9 => some (vI q63_9)) X dX3_passSigns_63 rfl (fun a ha => c_X2_partAt N lt b c ms1 rd m P x1 h8 x2 x6 K.1.2.1 K.2.2.1.1 (kE K) a ha) (fun a => Zw_d _ _ _ _ _ _ _ _) gd_X3_50 rfl (n := 2) (by decide) rfl (by decide) rfl rfl (zg_gobj h8) (Nat.zero_le _) (fun q63_9 eq63_9 => ?_)
        show Rn K _ 0 0 _ 66 [(0, .ref (kB K + 19)), (1, vG (kB K) x1), (2, vI x2), (3, vI x3), (4, vI x4), (5, vI x5), (6, vI x6), (7, vI x7_59)] [vI q63_9] (Zw (kE K) lt b c ms1 rd m P)
        refine r_istore (pc := 66) (lv' := [(0, .ref (kB K + 19)), (1, vG (kB K) x1), (2, vI x2), (3, vI x3), (4, vI x4), (5, vI x5), (6, vI x6), (7, vI x7_59), (8, vI q63_9)]) X [1, 2, 3, 4, 5, 6, 7, 8, 0] dX3_passSigns_66 (by decide) rfl ?_
        refine r_aload_n (pc := 68) X 0 dX3_passSigns_68 rfl rfl ?_
        refine r_get (pc := 69) (v := .ref (kB K + 20)) X 19 0 inX3 rfl rfl (by decide) tf_X3_9 rfl dX3_passSigns_69 ?_
        refine r_iload (pc := 72) X 8 dX3_passSigns_72 rfl ?_
        refine r_ckA (fun h10 => ?_)
        refine r_iald (pc := 74) (f := ms1 0) X 20 h10 zl_40 rfl dX3_passSigns_74 ?_
        refine r_iload (pc := 75) X 7 dX3_passSigns_75 rfl ?_
        refine r_ior (pc := 77) X dX3_passSigns_77 ?_
        refine r_aload_n (pc := 78) X 0 dX3_passSigns_78 rfl rfl ?_
        refine r_get (pc := 79) (v := .ref (kB K + 20)) X 19 0 inX3 rfl rfl (by decide) tf_X3_9 rfl dX3_passSigns_79 ?_
        refine r_iload (pc := 82) X 8 dX3_passSigns_82 rfl ?_
        refine r_iald (pc := 84) (f := ms1 0) X 20 h10 zl_40 rfl dX3_passSigns_84 ?_
        refine r_ck1 (fun h11 => ?_)
        refine r_ck1 (fun h12 => ?_)
        refine r_icmp_eq (pc := 85) X h11 h12 dX3_passSigns_85 (tgt := 102) (by decide) (fun h13 => ?_) (fun h13 => ?_)
        · refine r_iinc (pc := 102) (lv' := [(0, .ref (kB K + 19)), (1, vG (kB K) x1), (2, vI x2), (3, vI x3), (4, vI x4), (5, vI x5), (6, vI (x6 + 1)), (7, vI x7_59), (8, vI q63_9)]) X 6 [1, 2, 3, 4, 5, 6, 0, 7, 8] dX3_passSigns_102 rfl (by decide) rfl ?_
          refine r_goto (pc := 105) X dX3_passSigns_105 (tgt := 19) (by decide) ?_
          refine r_sub [0, 1, 2, 3, 4, 5, 6] rfl ?_
          exact ih x3 (x6 + 1) ms1
        · refine r_aload_n (pc := 88) X 0 dX3_passSigns_88 rfl rfl ?_
          refine r_get (pc := 89) (v := .ref (kB K + 20)) X 19 0 inX3 rfl rfl (by decide) tf_X3_9 rfl dX3_passSigns_89 ?_
          refine r_iload (pc := 92) X 8 dX3_passSigns_92 rfl ?_
          refine r_dup2 (pc := 94) X dX3_passSigns_94 rfl rfl ?_
          refine r_iald (pc := 95) (f := ms1 0) X 20 h10 zl_40 rfl dX3_passSigns_95 ?_
          refine r_iload (pc := 96) X 7 dX3_passSigns_96 rfl ?_
          refine r_ior (pc := 98) X dX3_passSigns_98 ?_
          refine r_iast (pc := 99) (f := ms1 0) (ws' := (Zw (kE K) lt b c (bS ms1 0 (aS (ms1 0) q63_9 (i_or (ms1 0 q63_9) x7_59))) rd m P)) X 20 h10 zl_40 rfl rfl dX3_passSigns_99 ?_
          refine r_iconst (pc := 100) X 1 dX3_passSigns_100 (by decide) ?_
          refine r_istore_n (pc := 101) (lv' := [(0, .ref (kB K + 19)), (1, vG (kB K) x1), (2, vI x2), (3, vI 1), (4, vI x4), (5, vI x5), (6, vI x6), (7, vI x7_59), (8, vI q63_9)]) X [1, 2, 3, 0, 4, 5, 6, 7, 8] dX3_passSigns_101 rfl (by decide) rfl ?_
          refine r_iinc (pc := 102) (lv' := [(0, .ref (kB K + 19)), (1, vG (kB K) x1), (2, vI x2), (3, vI 1), (4, vI x4), (5, vI x5), (6, vI (x6 + 1)), (7, vI x7_59), (8, vI q63_9)]) X 6 [1, 2, 3, 4, 5, 6, 0, 7, 8] dX3_passSigns_102 rfl (by decide) rfl ?_
          refine r_goto (pc := 105) X dX3_passSigns_105 (tgt := 19) (by decide) ?_
          refine r_sub [0, 1, 2, 3, 4, 5, 6] rfl ?_
          exact ih 1 (x6 + 1) (bS ms1 0 (aS (ms1 0) q63_9 (i_or (ms1 0 q63_9) x7_59)))
      refine r_ck1 (fun h14 => ?_)
      refine r_icmp_ne (pc := 38) X h14 (by decide) dX3_passSigns_38 (tgt := 59) (by decide) (fun h15 => ?_) (fun h15 => ?_)
      · exact hj59 (ms1 0 x2)
      · refine r_iload (pc := 41) X 6 dX3_passSigns_41 rfl ?_
        refine r_ifne (pc := 43) X h4 dX3_passSigns_43 (tgt := 59) (by decide) (fun h16 => ?_) (fun h16 => ?_)
        · exact hj59 (ms1 0 x2)
        · refine r_iload (pc := 46) X 7 dX3_passSigns_46 rfl ?_
          refine r_iconst (pc := 48) X 1 dX3_passSigns_48 (by decide) ?_
          refine r_iand (pc := 49) X dX3_passSigns_49 ?_
          refine r_iconst (pc := 50) X 1 dX3_passSigns_50 (by decide) ?_
          refine r_ishl (pc := 51) X dX3_passSigns_51 ?_
          refine r_iload (pc := 52) X 7 dX3_passSigns_52 rfl ?_
          refine r_iconst (pc := 54) X 1 dX3_passSigns_54 (by decide) ?_
          refine r_ishr (pc := 55) X dX3_passSigns_55 ?_
          refine r_ior (pc := 56) X dX3_passSigns_56 ?_
          refine r_istore (pc := 57) (lv' := [(0, .ref (kB K + 19)), (1, vG (kB K) x1), (2, vI x2), (3, vI x3), (4, vI x4), (5, vI x5), (6, vI x6), (7, vI (i_or (i_shl (i_and (ms1 0 x2) 1) 1) (i_shr (ms1 0 x2) 1)))]) X [1, 2, 3, 4, 5, 6, 7, 0] dX3_passSigns_57 (by decide) rfl ?_
          exact hj59 (i_or (i_shl (i_and (ms1 0 x2) 1) 1) (i_shr (ms1 0 x2) 1))
set_option maxRecDepth 100000 in
set_option maxHeartbeats 4000000 in
theorem t_X3_passSigns (N : Nat) (lt b c ms rd m : Bd) (P : PL) (x1 x2 : Int) (K : KT) (X : Kok K cX3_passSigns yX3_passSigns.cls lw_g ({ frames := 2, cells := 0, slots := 0, locals := 43 } : Room) (some .boolean) 9) : Rn K (Q_X3_passSigns K lt b c ms rd m P) 0 0 (f_X3_passSigns N ms P x1 x2) 0 [(0, .ref (kB K + 19)), (1, vG (kB K) x1), (2, vI x2)] [] (Zw (kE K) lt b c ms rd m P) := by
  unfold f_X3_passSigns
  refine r_iconst (pc := 0) X 0 dX3_passSigns_0 (by decide) ?_
  refine r_istore_n (pc := 1) (lv' := [(0, .ref (kB K + 19)), (1, vG (kB K) x1), (2, vI x2), (3, vI 0)]) X [1, 2, 3, 0] dX3_passSigns_1 rfl (by decide) rfl ?_
  refine r_gload_n (pc := 2) X 1 dX3_passSigns_2 rfl rfl ?_
  refine r_iload_n (pc := 3) X 2 dX3_passSigns_3 rfl rfl ?_
  refine r_ckG (fun h1 => ?_)
  refine r_rf1 h1.1 ?_
  refine r_callV (pc := 4) (q0 := (62 + 2 * (x1).toNat)) (ci := 2) (As := [vI x2]) (rest := []) (W' := fun q4_2 => (Zw (kE K) lt b c ms rd m P)) (rv := fun q4_2 => some (vI q4_2)) X dX3_passSigns_4 rfl (fun a ha => c_X2_headAt N lt b c ms rd m P x1 h1 x2 K.1.2.1 K.2.2.1.1 (kE K) a ha) (fun a => Zw_d _ _ _ _ _ _ _ _) gd_X3_43 rfl (n := 1) (by decide) rfl (by decide) rfl rfl (zg_gobj h1) (Nat.zero_le _) (fun q4_2 eq4_2 => ?_)
  show Rn K _ 0 0 _ 7 [(0, .ref (kB K + 19)), (1, vG (kB K) x1), (2, vI x2), (3, vI 0)] [vI q4_2] (Zw (kE K) lt b c ms rd m P)
  refine r_istore (pc := 7) (lv' := [(0, .ref (kB K + 19)), (1, vG (kB K) x1), (2, vI x2), (3, vI 0), (4, vI q4_2)]) X [1, 2, 3, 4, 0] dX3_passSigns_7 (by decide) rfl ?_
  refine r_iload (pc := 9) X 4 dX3_passSigns_9 rfl ?_
  refine r_callN (pc := 11) (As := [vI q4_2]) (rest := []) (W' := fun q11_3 => (Zw (kE K) lt b c ms rd m P)) (rv := fun q11_3 => some (vI q11_3)) X dX3_passSigns_11 rfl (fun a ha => c_X5_partsOf N lt b c ms rd m P q4_2 K.1.2.1 K.2.2.1.1 (kE K) a ha) (fun a => Zw_d _ _ _ _ _ _ _ _) (gd_c tc_X5_partsOf) (by decide) tt_X5_partsOf tn_RX5 rfl (n := 1) (by decide) rfl (by decide) (Nat.zero_le _) (fun q11_3 eq11_3 => ?_)
  show Rn K _ 0 0 _ 14 [(0, .ref (kB K + 19)), (1, vG (kB K) x1), (2, vI x2), (3, vI 0), (4, vI q4_2)] [vI q11_3] (Zw (kE K) lt b c ms rd m P)
  refine r_istore (pc := 14) (lv' := [(0, .ref (kB K + 19)), (1, vG (kB K) x1), (2, vI x2), (3, vI 0), (4, vI q4_2), (5, vI q11_3)]) X [1, 2, 3, 4, 5, 0] dX3_passSigns_14 (by decide) rfl ?_
  refine r_iconst (pc := 16) X 0 dX3_passSigns_16 (by decide) ?_
  refine r_istore (pc := 17) (lv' := [(0, .ref (kB K + 19)), (1, vG (kB K) x1), (2, vI x2), (3, vI 0), (4, vI q4_2), (5, vI q11_3), (6, vI 0)]) X [1, 2, 3, 4, 5, 6, 0] dX3_passSigns_17 (by decide) rfl ?_
  refine t_X3_passSigns_L19 N lt b c ms rd m P  x1 x2 q4_2 q11_3 K X _ ?_ N 0 0 ms
  intro x3_19 ms_19
  refine r_iload_n (pc := 108) X 0 dX3_passSigns_108 rfl rfl ?_
  refine r_ckB (fun h17 => ?_)
  exact r_zret (pc := 109) X h17 rfl rfl (by decide) dX3_passSigns_109
theorem c_X3_passSigns (N : Nat) (lt b c ms rd m : Bd) (P : PL) (x1 x2 : Int) (l : Launch) (D : va_G) (E : ET) (a : Int × Bd) (ha : f_X3_passSigns N ms P x1 x2 = some a) : Ct l yX3_passSigns (Cond.code yX3_passSigns cX3_passSigns 9 (some .boolean) :: lw_g) ({ frames := 2, cells := 0, slots := 0, locals := 43 } : Room) D E [.ref (E.2.2.2 + 19), vG (E.2.2.2) x1, vI x2] (Zw E lt b c ms rd m P) (Zw E lt b c a.2 rd m P) (some (vI a.1)) :=
  ct_of (av := fun E => [.ref (E.2.2.2 + 19), vG (E.2.2.2) x1, vI x2]) (W0 := fun E => Zw E lt b c ms rd m P) (W1 := fun E (a : Int × Bd) => Zw E lt b c a.2 rd m P) (rw := fun E a => some (vI a.1)) (by decide) rfl (fun E => Zw_d E lt b c ms rd m P) (fun E => by simp [lg_sl, z_cat, z_catR, z_catI, z_catL]) (fun K X => r_lv (by simp [lv_args, z_cat, z_catR, z_catI, z_catL]) (t_X3_passSigns N lt b c ms rd m P x1 x2 K X)) l D E a ha
abbrev Q_X3_signsAt (K : KT) (lt b c ms rd m : Bd) (P : PL) : (Int × Bd) → State → Prop := Qm K ({ frames := 3, cells := 0, slots := 0, locals := 71 } : Room) (fun a : Int × Bd => Zw (kE K) lt b c a.2 rd m P) (fun a => some (vI a.1))
set_option maxRecDepth 100000 in
set_option maxHeartbeats 4000000 in
theorem t_X3_signsAt_L54 (N : Nat) (lt b c ms rd m : Bd) (P : PL) (x1 x2 x4 : Int) (K : KT) (X : Kok K cX3_signsAt yX3_signsAt.cls lw_g ({ frames := 3, cells := 0, slots := 0, locals := 71 } : Room) (some .int) 6) (k : Int → Bd → Option (Int × Bd)) (hk : ∀ (x3 : Int) (ms1 : Bd), Rn K (Q_X3_signsAt K lt b c ms rd m P) 0 0 (k x3 ms1) 79 [(0, .ref (kB K + 19)), (1, vG (kB K) x1), (2, vI x2), (3, vI x3), (4, vI x4)] [] (Zw (kE K) lt b c ms1 rd m P)) : ∀ (n : Nat) (x3 : Int) (x5 : Int) (ms1 : Bd), Rn K (Q_X3_signsAt K lt b c ms rd m P) 0 0 (f_X3_signsAt_L54 N P x1 x2 x4 k n x3 x5 ms1) 54 [(0, .ref (kB K + 19)), (1, vG (kB K) x1), (2, vI x2), (3, vI x3), (4, vI x4), (5, vI x5)] [] (Zw (kE K) lt b c ms1 rd m P) := by
  intro n
  induction n with
  | zero =>
    intro x3 x5 ms1
    rw [f_X3_signsAt_L54]
    exact r_none
  | succ n ih =>
    intro x3 x5 ms1
    rw [f_X3_signsAt_L54]
    refine r_iload (pc := 54) X 5 dX3_signsAt_54 rfl ?_
    refine r_gload_n (pc := 56) X 1 dX3_signsAt_56 rfl rfl ?_
    refine r_ckG (fun h11 => ?_)
    refine r_rf0 h11.1 ?_
    refine r_get (pc := 57) (v := vI ((gP P x1).1)) X (62 + 2 * (x1).toNat) 0 inX2 (zg_gobj h11) rfl (by decide) tf_X3_25 rfl dX3_signsAt_57 ?_
    refine r_ck1 (fun h12 => ?_)
    refine r_ck1 (fun h13 => ?_)
    refine r_icmp_ge (pc := 60) X h12 h13 dX3_signsAt_60 (tgt := 79) (by decide) (fun h14 => ?_) (fun h14 => ?_)
    · refine r_sub [0, 1, 2, 3, 4] rfl ?_
      exact hk x3 ms1
    · refine r_iload_n (pc := 63) X 3 dX3_signsAt_63 rfl rfl ?_
      refine r_aload_n (pc := 64) X 0 dX3_signsAt_64 rfl rfl ?_
      refine r_gload_n (pc := 65) X 1 dX3_signsAt_65 rfl rfl ?_
      refine r_iload (pc := 66) X 5 dX3_signsAt_66 rfl ?_
      refine r_callV (pc := 68) (q0 := 19) (ci := 3) (As := [vG (kB K) x1, vI x5]) (rest := [vI x3]) (W' := fun q68_15 => (Zw (kE K) lt b c q68_15.2 rd m P)) (rv := fun q68_15 => some (vI q68_15.1)) X dX3_signsAt_68 rfl (fun a ha => c_X3_passSigns N lt b c ms1 rd m P x1 x5 K.1.2.1 K.2.2.1.1 (kE K) a ha) (fun a => Zw_d _ _ _ _ _ _ _ _) gd_X3_54 rfl (n := 2) (by decide) rfl (by decide) rfl rfl rfl (by simp [z_cat, z_catR, z_catI, z_catL]) (fun q68_15 eq68_15 => ?_)
      show Rn K _ 0 0 _ 71 [(0, .ref (kB K + 19)), (1, vG (kB K) x1), (2, vI x2), (3, vI x3), (4, vI x4), (5, vI x5)] [vI q68_15.1, vI x3] (Zw (kE K) lt b c q68_15.2 rd m P)
      refine r_ior (pc := 71) X dX3_signsAt_71 ?_
      refine r_istore_n (pc := 72) (lv' := [(0, .ref (kB K + 19)), (1, vG (kB K) x1), (2, vI x2), (3, vI (i_or x3 q68_15.1)), (4, vI x4), (5, vI x5)]) X [1, 2, 3, 0, 4, 5] dX3_signsAt_72 rfl (by decide) rfl ?_
      refine r_iinc (pc := 73) (lv' := [(0, .ref (kB K + 19)), (1, vG (kB K) x1), (2, vI x2), (3, vI (i_or x3 q68_15.1)), (4, vI x4), (5, vI (x5 + 1))]) X 5 [1, 2, 3, 4, 5, 0] dX3_signsAt_73 rfl (by decide) rfl ?_
      refine r_goto (pc := 76) X dX3_signsAt_76 (tgt := 54) (by decide) ?_
      exact ih (i_or x3 q68_15.1) (x5 + 1) q68_15.2
set_option maxRecDepth 100000 in
set_option maxHeartbeats 4000000 in
theorem t_X3_signsAt_L38 (N : Nat) (lt b c ms rd m : Bd) (P : PL) (x1 x2 : Int) (K : KT) (X : Kok K cX3_signsAt yX3_signsAt.cls lw_g ({ frames := 3, cells := 0, slots := 0, locals := 71 } : Room) (some .int) 6) (k : Bd → Option (Int × Bd)) (hk : ∀ (ms1 : Bd), Rn K (Q_X3_signsAt K lt b c ms rd m P) 0 0 (k ms1) 85 [(0, .ref (kB K + 19)), (2, vI x2)] [] (Zw (kE K) lt b c ms1 rd m P)) : ∀ (n : Nat) (x3 : Int) (x4 : Int) (ms1 : Bd), Rn K (Q_X3_signsAt K lt b c ms rd m P) 0 0 (f_X3_signsAt_L38 N P x1 x2 k n x3 x4 ms1) 38 [(0, .ref (kB K + 19)), (1, vG (kB K) x1), (2, vI x2), (3, vI x3), (4, vI x4)] [] (Zw (kE K) lt b c ms1 rd m P) := by
  intro n
  induction n with
  | zero =>
    intro x3 x4 ms1
    rw [f_X3_signsAt_L38]
    exact r_none
  | succ n ih =>
    intro x3 x4 ms1
    rw [f_X3_signsAt_L38]
    refine r_iload_n (pc := 38) X 3 dX3_signsAt_38 rfl rfl ?_
    refine r_ck1 (fun h7 => ?_)
    refine r_ifeq (pc := 39) X h7 dX3_signsAt_39 (tgt := 85) (by decide) (fun h8 => ?_) (fun h8 => ?_)
    · refine r_sub [0, 2] rfl ?_
      exact hk ms1
    · refine r_iload (pc := 42) X 4 dX3_signsAt_42 rfl ?_
      refine r_bipush (pc := 44) X 80 dX3_signsAt_44 (by decide) ?_
      refine r_ck1 (fun h9 => ?_)
      refine r_icmp_gt (pc := 46) X h9 (by decide) dX3_signsAt_46 (tgt := 85) (by decide) (fun h10 => ?_) (fun h10 => ?_)
      · refine r_sub [0, 2] rfl ?_
        exact hk ms1
      · refine r_iconst (pc := 49) X 0 dX3_signsAt_49 (by decide) ?_
        refine r_istore_n (pc := 50) (lv' := [(0, .ref (kB K + 19)), (1, vG (kB K) x1), (2, vI x2), (3, vI 0), (4, vI x4)]) X [1, 2, 3, 0, 4] dX3_signsAt_50 rfl (by decide) rfl ?_
        refine r_iconst (pc := 51) X 0 dX3_signsAt_51 (by decide) ?_
        refine r_istore (pc := 52) (lv' := [(0, .ref (kB K + 19)), (1, vG (kB K) x1), (2, vI x2), (3, vI 0), (4, vI x4), (5, vI 0)]) X [1, 2, 3, 4, 5, 0] dX3_signsAt_52 (by decide) rfl ?_
        refine t_X3_signsAt_L54 N lt b c ms rd m P  x1 x2 x4 K X _ ?_ N 0 0 ms1
        intro x3_54 ms_54
        refine r_iinc (pc := 79) (lv' := [(0, .ref (kB K + 19)), (1, vG (kB K) x1), (2, vI x2), (3, vI x3_54), (4, vI (x4 + 1))]) X 4 [1, 2, 3, 4, 0] dX3_signsAt_79 rfl (by decide) rfl ?_
        refine r_goto (pc := 82) X dX3_signsAt_82 (tgt := 38) (by decide) ?_
        exact ih x3_54 (x4 + 1) ms_54
set_option maxRecDepth 100000 in
set_option maxHeartbeats 4000000 in
theorem t_X3_signsAt (N : Nat) (lt b c ms rd m : Bd) (P : PL) (x1 x2 : Int) (K : KT) (X : Kok K cX3_signsAt yX3_signsAt.cls lw_g ({ frames := 3, cells := 0, slots := 0, locals := 71 } : Room) (some .int) 6) : Rn K (Q_X3_signsAt K lt b c ms rd m P) 0 0 (f_X3_signsAt N ms P x1 x2) 0 [(0, .ref (kB K + 19)), (1, vG (kB K) x1), (2, vI x2)] [] (Zw (kE K) lt b c ms rd m P) := by
  unfold f_X3_signsAt
  refine r_iload_n (pc := 0) X 2 dX3_signsAt_0 rfl rfl ?_
  refine r_ck1 (fun h1 => ?_)
  refine r_iflt (pc := 1) X h1 dX3_signsAt_1 (tgt := 12) (by decide) (fun h2 => ?_) (fun h2 => ?_)
  · refine r_iconst (pc := 12) X 0 dX3_signsAt_12 (by decide) ?_
    exact r_iret (pc := 13) X rfl rfl (by decide) dX3_signsAt_13
  · refine r_iload_n (pc := 4) X 2 dX3_signsAt_4 rfl rfl ?_
    refine r_gload_n (pc := 5) X 1 dX3_signsAt_5 rfl rfl ?_
    refine r_ckG (fun h3 => ?_)
    refine r_rf0 h3.1 ?_
    refine r_get (pc := 6) (v := vI ((gP P x1).1)) X (62 + 2 * (x1).toNat) 0 inX2 (zg_gobj h3) rfl (by decide) tf_X3_25 rfl dX3_signsAt_6 ?_
    refine r_ck1 (fun h4 => ?_)
    refine r_icmp_lt (pc := 9) X h1 h4 dX3_signsAt_9 (tgt := 14) (by decide) (fun h5 => ?_) (fun h5 => ?_)
    · refine r_aload_n (pc := 14) X 0 dX3_signsAt_14 rfl rfl ?_
      refine r_get (pc := 15) (v := .ref (kB K + 20)) X 19 0 inX3 rfl rfl (by decide) tf_X3_9 rfl dX3_signsAt_15 ?_
      refine r_gload_n (pc := 18) X 1 dX3_signsAt_18 rfl rfl ?_
      refine r_rf0 h3.1 ?_
      refine r_get (pc := 19) (v := vI ((gP P x1).1)) X (62 + 2 * (x1).toNat) 0 inX2 (zg_gobj h3) rfl (by decide) tf_X3_25 rfl dX3_signsAt_19 ?_
      refine r_iconst (pc := 22) X 0 dX3_signsAt_22 (by decide) ?_
      refine r_callN (pc := 23) (As := [.ref (kB K + 20), vI ((gP P x1).1), vI 0]) (rest := []) (W' := fun q23_6 => (Zw (kE K) lt b c (bS ms 0 q23_6) rd m P)) (rv := fun _ => none) X dX3_signsAt_23 rfl (fun a ha => c_X5_fillRow N (fun F0 => (Zw (kE K) lt b c (bS ms 0 F0) rd m P)) 20 (kB K + 20) 40 40 (ms 0) ((gP P x1).1) 0 K.1.2.1 K.2.2.1.1 (kE K) zl_40 (fun F0 => Zw_d _ _ _ _ _ _ _ _) (fun _ => rfl) (fun _ _ => rfl) a ha) (fun a => Zw_d _ _ _ _ _ _ _ _) (gd_c tc_X5_fillRow) (by decide) tt_X5_fillRow tn_RX5 rfl (n := 3) (by decide) rfl (by decide) (Nat.zero_le _) (fun q23_6 eq23_6 => ?_)
      show Rn K _ 0 0 _ 26 [(0, .ref (kB K + 19)), (1, vG (kB K) x1), (2, vI x2)] [] (Zw (kE K) lt b c (bS ms 0 q23_6) rd m P)
      refine r_aload_n (pc := 26) X 0 dX3_signsAt_26 rfl rfl ?_
      refine r_get (pc := 27) (v := .ref (kB K + 20)) X 19 0 inX3 rfl rfl (by decide) tf_X3_9 rfl dX3_signsAt_27 ?_
      refine r_iconst (pc := 30) X 0 dX3_signsAt_30 (by decide) ?_
      refine r_iconst (pc := 31) X 1 dX3_signsAt_31 (by decide) ?_
      refine r_iast (pc := 32) (f := q23_6) (ws' := (Zw (kE K) lt b c (bS ms 0 (aS q23_6 0 1)) rd m P)) X 20 (by decide) zl_40 rfl rfl dX3_signsAt_32 ?_
      refine r_iconst (pc := 33) X 1 dX3_signsAt_33 (by decide) ?_
      refine r_istore_n (pc := 34) (lv' := [(0, .ref (kB K + 19)), (1, vG (kB K) x1), (2, vI x2), (3, vI 1)]) X [1, 2, 3, 0] dX3_signsAt_34 rfl (by decide) rfl ?_
      refine r_iconst (pc := 35) X 0 dX3_signsAt_35 (by decide) ?_
      refine r_istore (pc := 36) (lv' := [(0, .ref (kB K + 19)), (1, vG (kB K) x1), (2, vI x2), (3, vI 1), (4, vI 0)]) X [1, 2, 3, 4, 0] dX3_signsAt_36 (by decide) rfl ?_
      refine t_X3_signsAt_L38 N lt b c ms rd m P  x1 x2 K X _ ?_ N 1 0 (bS ms 0 (aS q23_6 0 1))
      intro ms_38
      refine r_aload_n (pc := 85) X 0 dX3_signsAt_85 rfl rfl ?_
      refine r_get (pc := 86) (v := .ref (kB K + 20)) X 19 0 inX3 rfl rfl (by decide) tf_X3_9 rfl dX3_signsAt_86 ?_
      refine r_iload_n (pc := 89) X 1 dX3_signsAt_89 rfl rfl ?_
      refine r_ckA (fun h16 => ?_)
      refine r_iald (pc := 90) (f := ms_38 0) X 20 h16 zl_40 rfl dX3_signsAt_90 ?_
      exact r_iret (pc := 91) X rfl rfl (by decide) dX3_signsAt_91
    · refine r_iconst (pc := 12) X 0 dX3_signsAt_12 (by decide) ?_
      exact r_iret (pc := 13) X rfl rfl (by decide) dX3_signsAt_13
theorem c_X3_signsAt (N : Nat) (lt b c ms rd m : Bd) (P : PL) (x1 x2 : Int) (l : Launch) (D : va_G) (E : ET) (a : Int × Bd) (ha : f_X3_signsAt N ms P x1 x2 = some a) : Ct l yX3_signsAt (Cond.code yX3_signsAt cX3_signsAt 6 (some .int) :: lw_g) ({ frames := 3, cells := 0, slots := 0, locals := 71 } : Room) D E [.ref (E.2.2.2 + 19), vG (E.2.2.2) x1, vI x2] (Zw E lt b c ms rd m P) (Zw E lt b c a.2 rd m P) (some (vI a.1)) :=
  ct_of (av := fun E => [.ref (E.2.2.2 + 19), vG (E.2.2.2) x1, vI x2]) (W0 := fun E => Zw E lt b c ms rd m P) (W1 := fun E (a : Int × Bd) => Zw E lt b c a.2 rd m P) (rw := fun E a => some (vI a.1)) (by decide) rfl (fun E => Zw_d E lt b c ms rd m P) (fun E => by simp [lg_sl, z_cat, z_catR, z_catI, z_catL]) (fun K X => r_lv (by simp [lv_args, z_cat, z_catR, z_catI, z_catL]) (t_X3_signsAt N lt b c ms rd m P x1 x2 K X)) l D E a ha
