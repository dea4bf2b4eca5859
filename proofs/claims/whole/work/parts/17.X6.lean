abbrev Q_X6_read (K : KT) (lt b c ms rd m : Bd) (P : PL) : (Int × Bd) → State → Prop := Qm K ({ frames := 5, cells := 0, slots := 0, locals := 117 } : Room) (fun a : Int × Bd => Zw (kE K) lt b c ms rd a.2 P) (fun a => some (vI a.1))
set_option maxRecDepth 100000 in
set_option maxHeartbeats 4000000 in
theorem t_X6_read_L19 (N : Nat) (lt b c ms rd m : Bd) (P : PL) (m1 : Bd) (K : KT) (X : Kok K cX6_read yX6_read.cls lw_g ({ frames := 5, cells := 0, slots := 0, locals := 117 } : Room) (some .int) 7) (k : Int → Option (Int × Bd)) (hk : ∀ (x2 : Int), Rn K (Q_X6_read K lt b c ms rd m P) 0 0 (k x2) 50 [(0, .ref (kB K + 35)), (2, vI x2)] [] (Zw (kE K) lt b c ms rd m1 P)) : ∀ (n : Nat) (x2 : Int) (x3 : Int), Rn K (Q_X6_read K lt b c ms rd m P) 0 0 (f_X6_read_L19 m1 k n x2 x3) 19 [(0, .ref (kB K + 35)), (2, vI x2), (3, vI x3)] [] (Zw (kE K) lt b c ms rd m1 P) := by
  intro n
  induction n with
  | zero =>
    intro x2 x3
    rw [f_X6_read_L19]
    exact r_none
  | succ n ih =>
    intro x2 x3
    rw [f_X6_read_L19]
    refine r_iload_n (pc := 19) X 2 dX6_read_19 rfl rfl ?_
    refine r_bipush (pc := 20) X 8 dX6_read_20 (by decide) ?_
    refine r_ck1 (fun h4 => ?_)
    refine r_icmp_ge (pc := 22) X h4 (by decide) dX6_read_22 (tgt := 50) (by decide) (fun h5 => ?_) (fun h5 => ?_)
    · refine r_sub [0, 1] rfl ?_
      exact hk x2
    · refine r_iload_n (pc := 25) X 1 dX6_read_25 rfl rfl ?_
      refine r_aload_n (pc := 26) X 0 dX6_read_26 rfl rfl ?_
      refine r_get (pc := 27) (v := .ref (kB K + 53)) X 35 23 inX6 rfl rfl (by decide) tf_X6_61 rfl dX6_read_27 ?_
      refine r_iload_n (pc := 30) X 2 dX6_read_30 rfl rfl ?_
      refine r_ckA (fun h6 => ?_)
      refine r_iald (pc := 31) (f := m1 23) X 53 h6 zl_8 rfl dX6_read_31 ?_
      refine r_ck1 (fun h7 => ?_)
      refine r_iflt (pc := 32) X h7 dX6_read_32 (tgt := 41) (by decide) (fun h8 => ?_) (fun h8 => ?_)
      · refine r_iconst (pc := 41) X 0 dX6_read_41 (by decide) ?_
        refine r_ior (pc := 42) X dX6_read_42 ?_
        refine r_istore_n (pc := 43) (lv' := [(0, .ref (kB K + 35)), (2, vI (i_or x2 0)), (3, vI x3)]) X [1, 0, 2] dX6_read_43 rfl (by decide) rfl ?_
        refine r_iinc (pc := 44) (lv' := [(0, .ref (kB K + 35)), (2, vI (i_or x2 0)), (3, vI (x3 + 1))]) X 2 [1, 2, 0] dX6_read_44 rfl (by decide) rfl ?_
        refine r_goto (pc := 47) X dX6_read_47 (tgt := 19) (by decide) ?_
        exact ih (i_or x2 0) (x3 + 1)
      · refine r_iconst (pc := 35) X 1 dX6_read_35 (by decide) ?_
        refine r_iload_n (pc := 36) X 2 dX6_read_36 rfl rfl ?_
        refine r_ishl (pc := 37) X dX6_read_37 ?_
        refine r_goto (pc := 38) X dX6_read_38 (tgt := 42) (by decide) ?_
        refine r_ior (pc := 42) X dX6_read_42 ?_
        refine r_istore_n (pc := 43) (lv' := [(0, .ref (kB K + 35)), (2, vI (i_or x2 (i_shl 1 x3))), (3, vI x3)]) X [1, 0, 2] dX6_read_43 rfl (by decide) rfl ?_
        refine r_iinc (pc := 44) (lv' := [(0, .ref (kB K + 35)), (2, vI (i_or x2 (i_shl 1 x3))), (3, vI (x3 + 1))]) X 2 [1, 2, 0] dX6_read_44 rfl (by decide) rfl ?_
        refine r_goto (pc := 47) X dX6_read_47 (tgt := 19) (by decide) ?_
        exact ih (i_or x2 (i_shl 1 x3)) (x3 + 1)
set_option maxRecDepth 100000 in
set_option maxHeartbeats 4000000 in
theorem t_X6_read_L58 (N : Nat) (lt b c ms rd m : Bd) (P : PL) (x2 x3 : Int) (K : KT) (X : Kok K cX6_read yX6_read.cls lw_g ({ frames := 5, cells := 0, slots := 0, locals := 117 } : Room) (some .int) 7) (k : Bd → Option (Int × Bd)) (hk : ∀ (m1 : Bd), Rn K (Q_X6_read K lt b c ms rd m P) 0 0 (k m1) 114 [(0, .ref (kB K + 35)), (2, vI x2), (3, vI x3)] [] (Zw (kE K) lt b c ms rd m1 P)) : ∀ (n : Nat) (x4 : Int) (m1 : Bd), Rn K (Q_X6_read K lt b c ms rd m P) 0 0 (f_X6_read_L58 N x2 x3 k n x4 m1) 58 [(0, .ref (kB K + 35)), (2, vI x2), (3, vI x3), (4, vI x4)] [] (Zw (kE K) lt b c ms rd m1 P) := by
  intro n
  induction n with
  | zero =>
    intro x4 m1
    rw [f_X6_read_L58]
    exact r_none
  | succ n ih =>
    intro x4 m1
    rw [f_X6_read_L58]
    refine r_iload (pc := 58) X 3 dX6_read_58 rfl ?_
    refine r_bipush (pc := 60) X 8 dX6_read_60 (by decide) ?_
    refine r_ck1 (fun h9 => ?_)
    refine r_icmp_ge (pc := 62) X h9 (by decide) dX6_read_62 (tgt := 114) (by decide) (fun h10 => ?_) (fun h10 => ?_)
    · refine r_sub [0, 1, 2] rfl ?_
      exact hk m1
    · refine r_aload_n (pc := 65) X 0 dX6_read_65 rfl rfl ?_
      refine r_get (pc := 66) (v := .ref (kB K + 53)) X 35 23 inX6 rfl rfl (by decide) tf_X6_61 rfl dX6_read_66 ?_
      refine r_iload (pc := 69) X 3 dX6_read_69 rfl ?_
      refine r_aload_n (pc := 71) X 0 dX6_read_71 rfl rfl ?_
      refine r_get (pc := 72) (v := .ref (kB K + 53)) X 35 23 inX6 rfl rfl (by decide) tf_X6_61 rfl dX6_read_72 ?_
      refine r_iload (pc := 75) X 3 dX6_read_75 rfl ?_
      refine r_ckA (fun h11 => ?_)
      refine r_iald (pc := 77) (f := m1 23) X 53 h11 zl_8 rfl dX6_read_77 ?_
      refine r_ck1 (fun h12 => ?_)
      refine r_ifge (pc := 78) X h12 dX6_read_78 (tgt := 100) (by decide) (fun h13 => ?_) (fun h13 => ?_)
      · refine r_aload_n (pc := 100) X 0 dX6_read_100 rfl rfl ?_
        refine r_get (pc := 101) (v := .ref (kB K + 53)) X 35 23 inX6 rfl rfl (by decide) tf_X6_61 rfl dX6_read_101 ?_
        refine r_iload (pc := 104) X 3 dX6_read_104 rfl ?_
        refine r_iald (pc := 106) (f := m1 23) X 53 h11 zl_8 rfl dX6_read_106 ?_
        refine r_iast (pc := 107) (f := m1 23) (ws' := (Zw (kE K) lt b c ms rd (bS m1 23 (aS (m1 23) x4 (m1 23 x4))) P)) X 53 h11 zl_8 rfl rfl dX6_read_107 ?_
        refine r_iinc (pc := 108) (lv' := [(0, .ref (kB K + 35)), (2, vI x2), (3, vI x3), (4, vI (x4 + 1))]) X 3 [1, 2, 3, 0] dX6_read_108 rfl (by decide) rfl ?_
        refine r_goto (pc := 111) X dX6_read_111 (tgt := 58) (by decide) ?_
        exact ih (x4 + 1) (bS m1 23 (aS (m1 23) x4 (m1 23 x4)))
      · refine r_aload_n (pc := 81) X 0 dX6_read_81 rfl rfl ?_
        refine r_get (pc := 82) (v := .ref (kB K + 36)) X 35 0 inX6 rfl rfl (by decide) tf_X6_7 rfl dX6_read_82 ?_
        refine r_iload (pc := 85) X 3 dX6_read_85 rfl ?_
        refine r_iald (pc := 87) (f := m1 0) X 36 h11 zl_8 rfl dX6_read_87 ?_
        refine r_ck1 (fun h14 => ?_)
        refine r_ifle (pc := 88) X h14 dX6_read_88 (tgt := 100) (by decide) (fun h15 => ?_) (fun h15 => ?_)
        · refine r_aload_n (pc := 100) X 0 dX6_read_100 rfl rfl ?_
          refine r_get (pc := 101) (v := .ref (kB K + 53)) X 35 23 inX6 rfl rfl (by decide) tf_X6_61 rfl dX6_read_101 ?_
          refine r_iload (pc := 104) X 3 dX6_read_104 rfl ?_
          refine r_iald (pc := 106) (f := m1 23) X 53 h11 zl_8 rfl dX6_read_106 ?_
          refine r_iast (pc := 107) (f := m1 23) (ws' := (Zw (kE K) lt b c ms rd (bS m1 23 (aS (m1 23) x4 (m1 23 x4))) P)) X 53 h11 zl_8 rfl rfl dX6_read_107 ?_
          refine r_iinc (pc := 108) (lv' := [(0, .ref (kB K + 35)), (2, vI x2), (3, vI x3), (4, vI (x4 + 1))]) X 3 [1, 2, 3, 0] dX6_read_108 rfl (by decide) rfl ?_
          refine r_goto (pc := 111) X dX6_read_111 (tgt := 58) (by decide) ?_
          exact ih (x4 + 1) (bS m1 23 (aS (m1 23) x4 (m1 23 x4)))
        · refine r_aload_n (pc := 91) X 0 dX6_read_91 rfl rfl ?_
          refine r_iload (pc := 92) X 3 dX6_read_92 rfl ?_
          refine r_callV (pc := 94) (q0 := 35) (ci := 6) (As := [vI x4]) (rest := [vI x4, .ref (kB K + 53)]) (W' := fun q94_16 => (Zw (kE K) lt b c ms rd q94_16.2 P)) (rv := fun q94_16 => some (vI q94_16.1)) X dX6_read_94 rfl (fun a ha => c_X6_loads N lt b c ms rd m1 P x4 K.1.2.1 K.2.2.1.1 (kE K) a ha) (fun a => Zw_d _ _ _ _ _ _ _ _) gd_X6_192 rfl (n := 1) (by decide) rfl (by decide) rfl rfl rfl (by simp [z_cat, z_catR, z_catI, z_catL]) (fun q94_16 eq94_16 => ?_)
          show Rn K _ 0 0 _ 97 [(0, .ref (kB K + 35)), (2, vI x2), (3, vI x3), (4, vI x4)] [vI q94_16.1, vI x4, .ref (kB K + 53)] (Zw (kE K) lt b c ms rd q94_16.2 P)
          refine r_goto (pc := 97) X dX6_read_97 (tgt := 107) (by decide) ?_
          refine r_iast (pc := 107) (f := q94_16.2 23) (ws' := (Zw (kE K) lt b c ms rd (bS q94_16.2 23 (aS (q94_16.2 23) x4 q94_16.1)) P)) X 53 h11 zl_8 rfl rfl dX6_read_107 ?_
          refine r_iinc (pc := 108) (lv' := [(0, .ref (kB K + 35)), (2, vI x2), (3, vI x3), (4, vI (x4 + 1))]) X 3 [1, 2, 3, 0] dX6_read_108 rfl (by decide) rfl ?_
          refine r_goto (pc := 111) X dX6_read_111 (tgt := 58) (by decide) ?_
          exact ih (x4 + 1) (bS q94_16.2 23 (aS (q94_16.2 23) x4 q94_16.1))
set_option maxRecDepth 100000 in
set_option maxHeartbeats 4000000 in
theorem t_X6_read_L117 (N : Nat) (lt b c ms rd m : Bd) (P : PL) (x2 x3 : Int) (K : KT) (X : Kok K cX6_read yX6_read.cls lw_g ({ frames := 5, cells := 0, slots := 0, locals := 117 } : Room) (some .int) 7) (k : Bd → Option (Int × Bd)) (hk : ∀ (m1 : Bd), Rn K (Q_X6_read K lt b c ms rd m P) 0 0 (k m1) 216 [(0, .ref (kB K + 35)), (2, vI x2)] [] (Zw (kE K) lt b c ms rd m1 P)) : ∀ (n : Nat) (x4 : Int) (m1 : Bd), Rn K (Q_X6_read K lt b c ms rd m P) 0 0 (f_X6_read_L117 N x2 x3 k n x4 m1) 117 [(0, .ref (kB K + 35)), (2, vI x2), (3, vI x3), (4, vI x4)] [] (Zw (kE K) lt b c ms rd m1 P) := by
  intro n
  induction n with
  | zero =>
    intro x4 m1
    rw [f_X6_read_L117]
    exact r_none
  | succ n ih =>
    intro x4 m1
    rw [f_X6_read_L117]
    refine r_iload (pc := 117) X 3 dX6_read_117 rfl ?_
    refine r_iload_n (pc := 119) X 2 dX6_read_119 rfl rfl ?_
    refine r_ck1 (fun h17 => ?_)
    refine r_ck1 (fun h18 => ?_)
    refine r_icmp_ge (pc := 120) X h17 h18 dX6_read_120 (tgt := 216) (by decide) (fun h19 => ?_) (fun h19 => ?_)
    · refine r_sub [0, 1] rfl ?_
      exact hk m1
    · refine r_aload_n (pc := 123) X 0 dX6_read_123 rfl rfl ?_
      refine r_get (pc := 124) (v := .ref (kB K + 42)) X 35 9 inX6 rfl rfl (by decide) tf_X6_28 rfl dX6_read_124 ?_
      refine r_iload (pc := 127) X 3 dX6_read_127 rfl ?_
      refine r_ckA (fun h20 => ?_)
      refine r_iald (pc := 129) (f := m1 9) X 42 h20 zl_3400 rfl dX6_read_129 ?_
      refine r_callS (pc := 130) (As := [vI (m1 9 x4)]) (rest := []) (W' := fun q130_21 => (Zw (kE K) lt b c ms rd m1 P)) (rv := fun q130_21 => some (vI q130_21)) X dX6_read_130 rfl (fun a ha => c_X6_headOf N lt b c ms rd m1 P (m1 9 x4) K.1.2.1 K.2.2.1.1 (kE K) a ha) (fun a => Zw_d _ _ _ _ _ _ _ _) gd_X6_102 rfl (n := 1) (by decide) rfl (by decide) (Nat.zero_le _) (fun q130_21 eq130_21 => ?_)
      show Rn K _ 0 0 _ 133 [(0, .ref (kB K + 35)), (2, vI x2), (3, vI x3), (4, vI x4)] [vI q130_21] (Zw (kE K) lt b c ms rd m1 P)
      refine r_istore (pc := 133) (lv' := [(0, .ref (kB K + 35)), (2, vI x2), (3, vI x3), (4, vI x4), (5, vI q130_21)]) X [1, 2, 3, 4, 0] dX6_read_133 (by decide) rfl ?_
      refine r_iload (pc := 135) X 4 dX6_read_135 rfl ?_
      refine r_bipush (pc := 137) X 7 dX6_read_137 (by decide) ?_
      refine r_ck1 (fun h22 => ?_)
      refine r_icmp_eq (pc := 139) X h22 (by decide) dX6_read_139 (tgt := 210) (by decide) (fun h23 => ?_) (fun h23 => ?_)
      · refine r_iinc (pc := 210) (lv' := [(0, .ref (kB K + 35)), (2, vI x2), (3, vI x3), (4, vI (x4 + 1)), (5, vI q130_21)]) X 3 [1, 2, 3, 0, 4] dX6_read_210 rfl (by decide) rfl ?_
        refine r_goto (pc := 213) X dX6_read_213 (tgt := 117) (by decide) ?_
        refine r_sub [0, 1, 2, 3] rfl ?_
        exact ih (x4 + 1) m1
      · refine r_iload (pc := 142) X 4 dX6_read_142 rfl ?_
        refine r_callS (pc := 144) (As := [vI q130_21]) (rest := []) (W' := fun q144_24 => (Zw (kE K) lt b c ms rd m1 P)) (rv := fun q144_24 => some (vI q144_24)) X dX6_read_144 rfl (fun a ha => c_X6_parts N lt b c ms rd m1 P q130_21 K.1.2.1 K.2.2.1.1 (kE K) a ha) (fun a => Zw_d _ _ _ _ _ _ _ _) gd_X6_113 rfl (n := 1) (by decide) rfl (by decide) (Nat.zero_le _) (fun q144_24 eq144_24 => ?_)
        show Rn K _ 0 0 _ 147 [(0, .ref (kB K + 35)), (2, vI x2), (3, vI x3), (4, vI x4), (5, vI q130_21)] [vI q144_24] (Zw (kE K) lt b c ms rd m1 P)
        refine r_istore (pc := 147) (lv' := [(0, .ref (kB K + 35)), (2, vI x2), (3, vI x3), (4, vI x4), (5, vI q130_21), (6, vI q144_24)]) X [1, 2, 3, 4, 5, 0] dX6_read_147 (by decide) rfl ?_
        refine r_aload_n (pc := 149) X 0 dX6_read_149 rfl rfl ?_
        refine r_get (pc := 150) (v := .ref (kB K + 42)) X 35 9 inX6 rfl rfl (by decide) tf_X6_28 rfl dX6_read_150 ?_
        refine r_iload (pc := 153) X 3 dX6_read_153 rfl ?_
        refine r_iload (pc := 155) X 4 dX6_read_155 rfl ?_
        refine r_iload (pc := 157) X 5 dX6_read_157 rfl ?_
        refine r_jn (J := fun j181 => ∀ (s3_181 : Int), Rn K (Q_X6_read K lt b c ms rd m P) 0 0 (j181 s3_181) 181 [(0, .ref (kB K + 35)), (2, vI x2), (3, vI x3), (4, vI x4), (6, vI q144_24)] [vI s3_181, vI q130_21, vI x4, .ref (kB K + 42)] (Zw (kE K) lt b c ms rd m1 P)) ?_ (fun j181 hj181 => ?_)
        · intro s3_181
          refine r_iload (pc := 181) X 4 dX6_read_181 rfl ?_
          refine r_iconst (pc := 183) X 1 dX6_read_183 (by decide) ?_
          refine r_jn (J := fun j206 => ∀ (s4_206 : Int), Rn K (Q_X6_read K lt b c ms rd m P) 0 0 (j206 s4_206) 206 [(0, .ref (kB K + 35)), (2, vI x2), (3, vI x3), (4, vI x4)] [vI s4_206, vI s3_181, vI q130_21, vI x4, .ref (kB K + 42)] (Zw (kE K) lt b c ms rd m1 P)) ?_ (fun j206 hj206 => ?_)
          · intro s4_206
            refine r_callS (pc := 206) (As := [vI q130_21, vI s3_181, vI s4_206]) (rest := [vI x4, .ref (kB K + 42)]) (W' := fun q206_25 => (Zw (kE K) lt b c ms rd m1 P)) (rv := fun q206_25 => some (vI q206_25)) X dX6_read_206 rfl (fun a ha => c_X6_node N lt b c ms rd m1 P q130_21 s3_181 s4_206 K.1.2.1 K.2.2.1.1 (kE K) a ha) (fun a => Zw_d _ _ _ _ _ _ _ _) gd_X6_98 rfl (n := 3) (by decide) rfl (by decide) (by simp [z_cat, z_catR, z_catI, z_catL]) (fun q206_25 eq206_25 => ?_)
            show Rn K _ 0 0 _ 209 [(0, .ref (kB K + 35)), (2, vI x2), (3, vI x3), (4, vI x4)] [vI q206_25, vI x4, .ref (kB K + 42)] (Zw (kE K) lt b c ms rd m1 P)
            refine r_iast (pc := 209) (f := m1 9) (ws' := (Zw (kE K) lt b c ms rd (bS m1 9 (aS (m1 9) x4 q206_25)) P)) X 42 h20 zl_3400 rfl rfl dX6_read_209 ?_
            refine r_iinc (pc := 210) (lv' := [(0, .ref (kB K + 35)), (2, vI x2), (3, vI x3), (4, vI (x4 + 1))]) X 3 [1, 2, 3, 0] dX6_read_210 rfl (by decide) rfl ?_
            refine r_goto (pc := 213) X dX6_read_213 (tgt := 117) (by decide) ?_
            exact ih (x4 + 1) (bS m1 9 (aS (m1 9) x4 q206_25))
          refine r_ck1 (fun h26 => ?_)
          refine r_icmp_le (pc := 184) X h26 (by decide) dX6_read_184 (tgt := 205) (by decide) (fun h27 => ?_) (fun h27 => ?_)
          · refine r_iconst (pc := 205) X 0 dX6_read_205 (by decide) ?_
            refine r_sub [0, 1, 2, 3] rfl ?_
            exact hj206 0
          · refine r_aload_n (pc := 187) X 0 dX6_read_187 rfl rfl ?_
            refine r_aload_n (pc := 188) X 0 dX6_read_188 rfl rfl ?_
            refine r_get (pc := 189) (v := .ref (kB K + 42)) X 35 9 inX6 rfl rfl (by decide) tf_X6_28 rfl dX6_read_189 ?_
            refine r_iload (pc := 192) X 3 dX6_read_192 rfl ?_
            refine r_iald (pc := 194) (f := m1 9) X 42 h20 zl_3400 rfl dX6_read_194 ?_
            refine r_iconst (pc := 195) X 1 dX6_read_195 (by decide) ?_
            refine r_callS (pc := 196) (As := [vI (m1 9 x4), vI 1]) (rest := [.ref (kB K + 35), vI s3_181, vI q130_21, vI x4, .ref (kB K + 42)]) (W' := fun q196_28 => (Zw (kE K) lt b c ms rd m1 P)) (rv := fun q196_28 => some (vI q196_28)) X dX6_read_196 rfl (fun a ha => c_X6_partOf N lt b c ms rd m1 P (m1 9 x4) 1 K.1.2.1 K.2.2.1.1 (kE K) a ha) (fun a => Zw_d _ _ _ _ _ _ _ _) gd_X6_106 rfl (n := 2) (by decide) rfl (by decide) (by simp [z_cat, z_catR, z_catI, z_catL]) (fun q196_28 eq196_28 => ?_)
            show Rn K _ 0 0 _ 199 [(0, .ref (kB K + 35)), (2, vI x2), (3, vI x3), (4, vI x4), (6, vI q144_24)] [vI q196_28, .ref (kB K + 35), vI s3_181, vI q130_21, vI x4, .ref (kB K + 42)] (Zw (kE K) lt b c ms rd m1 P)
            refine r_callV (pc := 199) (q0 := 35) (ci := 6) (As := [vI q196_28]) (rest := [vI s3_181, vI q130_21, vI x4, .ref (kB K + 42)]) (W' := fun q199_29 => (Zw (kE K) lt b c ms rd m1 P)) (rv := fun q199_29 => some (vI q199_29)) X dX6_read_199 rfl (fun a ha => c_X6_meant N lt b c ms rd m1 P q196_28 K.1.2.1 K.2.2.1.1 (kE K) a ha) (fun a => Zw_d _ _ _ _ _ _ _ _) gd_X6_195 rfl (n := 1) (by decide) rfl (by decide) rfl rfl rfl (by simp [z_cat, z_catR, z_catI, z_catL]) (fun q199_29 eq199_29 => ?_)
            show Rn K _ 0 0 _ 202 [(0, .ref (kB K + 35)), (2, vI x2), (3, vI x3), (4, vI x4), (6, vI q144_24)] [vI q199_29, vI s3_181, vI q130_21, vI x4, .ref (kB K + 42)] (Zw (kE K) lt b c ms rd m1 P)
            refine r_goto (pc := 202) X dX6_read_202 (tgt := 206) (by decide) ?_
            refine r_sub [0, 1, 2, 3] rfl ?_
            exact hj206 q199_29
        refine r_ck1 (fun h30 => ?_)
        refine r_ifle (pc := 159) X h30 dX6_read_159 (tgt := 180) (by decide) (fun h31 => ?_) (fun h31 => ?_)
        · refine r_iconst (pc := 180) X 0 dX6_read_180 (by decide) ?_
          refine r_sub [0, 1, 2, 3, 5] rfl ?_
          exact hj181 0
        · refine r_aload_n (pc := 162) X 0 dX6_read_162 rfl rfl ?_
          refine r_aload_n (pc := 163) X 0 dX6_read_163 rfl rfl ?_
          refine r_get (pc := 164) (v := .ref (kB K + 42)) X 35 9 inX6 rfl rfl (by decide) tf_X6_28 rfl dX6_read_164 ?_
          refine r_iload (pc := 167) X 3 dX6_read_167 rfl ?_
          refine r_iald (pc := 169) (f := m1 9) X 42 h20 zl_3400 rfl dX6_read_169 ?_
          refine r_iconst (pc := 170) X 0 dX6_read_170 (by decide) ?_
          refine r_callS (pc := 171) (As := [vI (m1 9 x4), vI 0]) (rest := [.ref (kB K + 35), vI q130_21, vI x4, .ref (kB K + 42)]) (W' := fun q171_32 => (Zw (kE K) lt b c ms rd m1 P)) (rv := fun q171_32 => some (vI q171_32)) X dX6_read_171 rfl (fun a ha => c_X6_partOf N lt b c ms rd m1 P (m1 9 x4) 0 K.1.2.1 K.2.2.1.1 (kE K) a ha) (fun a => Zw_d _ _ _ _ _ _ _ _) gd_X6_106 rfl (n := 2) (by decide) rfl (by decide) (by simp [z_cat, z_catR, z_catI, z_catL]) (fun q171_32 eq171_32 => ?_)
          show Rn K _ 0 0 _ 174 [(0, .ref (kB K + 35)), (2, vI x2), (3, vI x3), (4, vI x4), (5, vI q130_21), (6, vI q144_24)] [vI q171_32, .ref (kB K + 35), vI q130_21, vI x4, .ref (kB K + 42)] (Zw (kE K) lt b c ms rd m1 P)
          refine r_callV (pc := 174) (q0 := 35) (ci := 6) (As := [vI q171_32]) (rest := [vI q130_21, vI x4, .ref (kB K + 42)]) (W' := fun q174_33 => (Zw (kE K) lt b c ms rd m1 P)) (rv := fun q174_33 => some (vI q174_33)) X dX6_read_174 rfl (fun a ha => c_X6_meant N lt b c ms rd m1 P q171_32 K.1.2.1 K.2.2.1.1 (kE K) a ha) (fun a => Zw_d _ _ _ _ _ _ _ _) gd_X6_195 rfl (n := 1) (by decide) rfl (by decide) rfl rfl rfl (by simp [z_cat, z_catR, z_catI, z_catL]) (fun q174_33 eq174_33 => ?_)
          show Rn K _ 0 0 _ 177 [(0, .ref (kB K + 35)), (2, vI x2), (3, vI x3), (4, vI x4), (5, vI q130_21), (6, vI q144_24)] [vI q174_33, vI q130_21, vI x4, .ref (kB K + 42)] (Zw (kE K) lt b c ms rd m1 P)
          refine r_goto (pc := 177) X dX6_read_177 (tgt := 181) (by decide) ?_
          refine r_sub [0, 1, 2, 3, 5] rfl ?_
          exact hj181 q174_33
set_option maxRecDepth 100000 in
set_option maxHeartbeats 4000000 in
theorem t_X6_read_L266 (N : Nat) (lt b c ms rd m : Bd) (P : PL) (x2 x4 : Int) (K : KT) (X : Kok K cX6_read yX6_read.cls lw_g ({ frames := 5, cells := 0, slots := 0, locals := 117 } : Room) (some .int) 7) (k : Bd → Option (Int × Bd)) (hk : ∀ (m1 : Bd), Rn K (Q_X6_read K lt b c ms rd m P) 0 0 (k m1) 301 [(0, .ref (kB K + 35)), (2, vI x2), (4, vI x4)] [] (Zw (kE K) lt b c ms rd m1 P)) : ∀ (n : Nat) (x5 : Int) (m1 : Bd), Rn K (Q_X6_read K lt b c ms rd m P) 0 0 (f_X6_read_L266 x2 x4 k n x5 m1) 266 [(0, .ref (kB K + 35)), (2, vI x2), (4, vI x4), (5, vI x5)] [] (Zw (kE K) lt b c ms rd m1 P) := by
  intro n
  induction n with
  | zero =>
    intro x5 m1
    rw [f_X6_read_L266]
    exact r_none
  | succ n ih =>
    intro x5 m1
    rw [f_X6_read_L266]
    refine r_iload (pc := 266) X 3 dX6_read_266 rfl ?_
    refine r_aload_n (pc := 268) X 0 dX6_read_268 rfl rfl ?_
    refine r_get (pc := 269) (v := vI (m1 17 0)) X 35 17 inX6 rfl rfl (by decide) tf_X6_129 rfl dX6_read_269 ?_
    refine r_ck1 (fun h43 => ?_)
    refine r_ck1 (fun h44 => ?_)
    refine r_icmp_ge (pc := 272) X h43 h44 dX6_read_272 (tgt := 301) (by decide) (fun h45 => ?_) (fun h45 => ?_)
    · refine r_sub [0, 1, 2] rfl ?_
      exact hk m1
    · refine r_aload_n (pc := 275) X 0 dX6_read_275 rfl rfl ?_
      refine r_get (pc := 276) (v := .ref (kB K + 58)) X 35 31 inX6 rfl rfl (by decide) tf_X6_76 rfl dX6_read_276 ?_
      refine r_bipush (pc := 279) X 40 dX6_read_279 (by decide) ?_
      refine r_iload (pc := 281) X 2 dX6_read_281 rfl ?_
      refine r_imul (pc := 283) X dX6_read_283 ?_
      refine r_iload (pc := 284) X 3 dX6_read_284 rfl ?_
      refine r_iadd (pc := 286) X dX6_read_286 ?_
      refine r_aload_n (pc := 287) X 0 dX6_read_287 rfl rfl ?_
      refine r_get (pc := 288) (v := .ref (kB K + 48)) X 35 16 inX6 rfl rfl (by decide) tf_X6_46 rfl dX6_read_288 ?_
      refine r_iload (pc := 291) X 3 dX6_read_291 rfl ?_
      refine r_ckA (fun h46 => ?_)
      refine r_iald (pc := 293) (f := m1 16) X 48 h46 zl_41 rfl dX6_read_293 ?_
      refine r_ckA (fun h47 => ?_)
      refine r_iast (pc := 294) (f := m1 31) (ws' := (Zw (kE K) lt b c ms rd (bS m1 31 (aS (m1 31) ((40 * x4) + x5) (m1 16 x5))) P)) X 58 h47 zl_320 rfl rfl dX6_read_294 ?_
      refine r_iinc (pc := 295) (lv' := [(0, .ref (kB K + 35)), (2, vI x2), (4, vI x4), (5, vI (x5 + 1))]) X 3 [1, 2, 3, 0] dX6_read_295 rfl (by decide) rfl ?_
      refine r_goto (pc := 298) X dX6_read_298 (tgt := 266) (by decide) ?_
      exact ih (x5 + 1) (bS m1 31 (aS (m1 31) ((40 * x4) + x5) (m1 16 x5)))
set_option maxRecDepth 100000 in
set_option maxHeartbeats 4000000 in
theorem t_X6_read_L219 (N : Nat) (lt b c ms rd m : Bd) (P : PL) (x2 : Int) (K : KT) (X : Kok K cX6_read yX6_read.cls lw_g ({ frames := 5, cells := 0, slots := 0, locals := 117 } : Room) (some .int) 7) (k : Bd → Option (Int × Bd)) (hk : ∀ (m1 : Bd), Rn K (Q_X6_read K lt b c ms rd m P) 0 0 (k m1) 318 [(0, .ref (kB K + 35)), (2, vI x2)] [] (Zw (kE K) lt b c ms rd m1 P)) : ∀ (n : Nat) (x4 : Int) (m1 : Bd), Rn K (Q_X6_read K lt b c ms rd m P) 0 0 (f_X6_read_L219 N x2 k n x4 m1) 219 [(0, .ref (kB K + 35)), (2, vI x2), (4, vI x4)] [] (Zw (kE K) lt b c ms rd m1 P) := by
  intro n
  induction n with
  | zero =>
    intro x4 m1
    rw [f_X6_read_L219]
    exact r_none
  | succ n ih =>
    intro x4 m1
    rw [f_X6_read_L219]
    refine r_iload (pc := 219) X 2 dX6_read_219 rfl ?_
    refine r_bipush (pc := 221) X 8 dX6_read_221 (by decide) ?_
    refine r_ck1 (fun h34 => ?_)
    refine r_icmp_ge (pc := 223) X h34 (by decide) dX6_read_223 (tgt := 318) (by decide) (fun h35 => ?_) (fun h35 => ?_)
    · refine r_sub [0, 1] rfl ?_
      exact hk m1
    · refine r_iload_n (pc := 226) X 1 dX6_read_226 rfl rfl ?_
      refine r_iload (pc := 227) X 2 dX6_read_227 rfl ?_
      refine r_ishr (pc := 229) X dX6_read_229 ?_
      refine r_iconst (pc := 230) X 1 dX6_read_230 (by decide) ?_
      refine r_iand (pc := 231) X dX6_read_231 ?_
      refine r_iconst (pc := 232) X 1 dX6_read_232 (by decide) ?_
      refine r_ck1 (fun h36 => ?_)
      refine r_icmp_ne (pc := 233) X h36 (by decide) dX6_read_233 (tgt := 312) (by decide) (fun h37 => ?_) (fun h37 => ?_)
      · refine r_iinc (pc := 312) (lv' := [(0, .ref (kB K + 35)), (2, vI x2), (4, vI (x4 + 1))]) X 2 [1, 2, 0] dX6_read_312 rfl (by decide) rfl ?_
        refine r_goto (pc := 315) X dX6_read_315 (tgt := 219) (by decide) ?_
        exact ih (x4 + 1) m1
      · refine r_aload_n (pc := 236) X 0 dX6_read_236 rfl rfl ?_
        refine r_aload_n (pc := 237) X 0 dX6_read_237 rfl rfl ?_
        refine r_aload_n (pc := 238) X 0 dX6_read_238 rfl rfl ?_
        refine r_get (pc := 239) (v := .ref (kB K + 53)) X 35 23 inX6 rfl rfl (by decide) tf_X6_61 rfl dX6_read_239 ?_
        refine r_iload (pc := 242) X 2 dX6_read_242 rfl ?_
        refine r_ckA (fun h38 => ?_)
        refine r_iald (pc := 244) (f := m1 23) X 53 h38 zl_8 rfl dX6_read_244 ?_
        refine r_callV (pc := 245) (q0 := 35) (ci := 6) (As := [vI (m1 23 x4)]) (rest := [.ref (kB K + 35)]) (W' := fun q245_39 => (Zw (kE K) lt b c ms rd m1 P)) (rv := fun q245_39 => some (vI q245_39)) X dX6_read_245 rfl (fun a ha => c_X6_meant N lt b c ms rd m1 P (m1 23 x4) K.1.2.1 K.2.2.1.1 (kE K) a ha) (fun a => Zw_d _ _ _ _ _ _ _ _) gd_X6_195 rfl (n := 1) (by decide) rfl (by decide) rfl rfl rfl (by simp [z_cat, z_catR, z_catI, z_catL]) (fun q245_39 eq245_39 => ?_)
        show Rn K _ 0 0 _ 248 [(0, .ref (kB K + 35)), (2, vI x2), (4, vI x4)] [vI q245_39, .ref (kB K + 35)] (Zw (kE K) lt b c ms rd m1 P)
        refine r_callV (pc := 248) (q0 := 35) (ci := 6) (As := [vI q245_39]) (rest := []) (W' := fun q248_40 => (Zw (kE K) lt b c ms rd q248_40.2 P)) (rv := fun q248_40 => some (vI q248_40.1)) X dX6_read_248 rfl (fun a ha => c_X6_makes N lt b c ms rd m1 P q245_39 K.1.2.1 K.2.2.1.1 (kE K) a ha) (fun a => Zw_d _ _ _ _ _ _ _ _) gd_X6_135 rfl (n := 1) (by decide) rfl (by decide) rfl rfl rfl (Nat.zero_le _) (fun q248_40 eq248_40 => ?_)
        show Rn K _ 0 0 _ 251 [(0, .ref (kB K + 35)), (2, vI x2), (4, vI x4)] [vI q248_40.1] (Zw (kE K) lt b c ms rd q248_40.2 P)
        refine r_bipush (pc := 251) X 40 dX6_read_251 (by decide) ?_
        refine r_ck1 (fun h41 => ?_)
        refine r_icmp_le (pc := 253) X h41 (by decide) dX6_read_253 (tgt := 263) (by decide) (fun h42 => ?_) (fun h42 => ?_)
        · refine r_iconst (pc := 263) X 0 dX6_read_263 (by decide) ?_
          refine r_istore (pc := 264) (lv' := [(0, .ref (kB K + 35)), (2, vI x2), (4, vI x4), (5, vI 0)]) X [1, 2, 3, 0] dX6_read_264 (by decide) rfl ?_
          refine t_X6_read_L266 N lt b c ms rd m P  x2 x4 K X _ ?_ N 0 q248_40.2
          intro m_266
          refine r_aload_n (pc := 301) X 0 dX6_read_301 rfl rfl ?_
          refine r_get (pc := 302) (v := .ref (kB K + 59)) X 35 32 inX6 rfl rfl (by decide) tf_X6_79 rfl dX6_read_302 ?_
          refine r_iload (pc := 305) X 2 dX6_read_305 rfl ?_
          refine r_aload_n (pc := 307) X 0 dX6_read_307 rfl rfl ?_
          refine r_get (pc := 308) (v := vI (m_266 17 0)) X 35 17 inX6 rfl rfl (by decide) tf_X6_129 rfl dX6_read_308 ?_
          refine r_iast (pc := 311) (f := m_266 32) (ws' := (Zw (kE K) lt b c ms rd (bS m_266 32 (aS (m_266 32) x4 (m_266 17 0))) P)) X 59 h38 zl_8 rfl rfl dX6_read_311 ?_
          refine r_iinc (pc := 312) (lv' := [(0, .ref (kB K + 35)), (2, vI x2), (4, vI (x4 + 1))]) X 2 [1, 2, 0] dX6_read_312 rfl (by decide) rfl ?_
          refine r_goto (pc := 315) X dX6_read_315 (tgt := 219) (by decide) ?_
          exact ih (x4 + 1) (bS m_266 32 (aS (m_266 32) x4 (m_266 17 0)))
        · refine r_aload_n (pc := 256) X 0 dX6_read_256 rfl rfl ?_
          refine r_bipush (pc := 257) X (-4) dX6_read_257 (by decide) ?_
          refine r_callV (pc := 259) (q0 := 35) (ci := 6) (As := [vI (-4)]) (rest := []) (W' := fun q259_48 => (Zw (kE K) lt b c ms rd q259_48.2 P)) (rv := fun q259_48 => some (vI q259_48.1)) X dX6_read_259 rfl (fun a ha => c_X6_refuses N lt b c ms rd q248_40.2 P (-4) K.1.2.1 K.2.2.1.1 (kE K) a ha) (fun a => Zw_d _ _ _ _ _ _ _ _) gd_X6_138 rfl (n := 1) (by decide) rfl (by decide) rfl rfl rfl (Nat.zero_le _) (fun q259_48 eq259_48 => ?_)
          show Rn K _ 0 0 _ 262 [(0, .ref (kB K + 35)), (2, vI x2), (4, vI x4)] [vI q259_48.1] (Zw (kE K) lt b c ms rd q259_48.2 P)
          exact r_iret (pc := 262) X rfl rfl (by decide) dX6_read_262
set_option maxRecDepth 100000 in
set_option maxHeartbeats 4000000 in
theorem t_X6_read_L345 (N : Nat) (lt b c ms rd m : Bd) (P : PL) (x2 x4 : Int) (K : KT) (X : Kok K cX6_read yX6_read.cls lw_g ({ frames := 5, cells := 0, slots := 0, locals := 117 } : Room) (some .int) 7) (k : Bd → Option (Int × Bd)) (hk : ∀ (m1 : Bd), Rn K (Q_X6_read K lt b c ms rd m P) 0 0 (k m1) 389 [(0, .ref (kB K + 35)), (2, vI x2), (4, vI x4)] [] (Zw (kE K) lt b c ms rd m1 P)) : ∀ (n : Nat) (x5 : Int) (m1 : Bd), Rn K (Q_X6_read K lt b c ms rd m P) 0 0 (f_X6_read_L345 x2 x4 k n x5 m1) 345 [(0, .ref (kB K + 35)), (2, vI x2), (4, vI x4), (5, vI x5)] [] (Zw (kE K) lt b c ms rd m1 P) := by
  intro n
  induction n with
  | zero =>
    intro x5 m1
    rw [f_X6_read_L345]
    exact r_none
  | succ n ih =>
    intro x5 m1
    rw [f_X6_read_L345]
    refine r_iload (pc := 345) X 3 dX6_read_345 rfl ?_
    refine r_aload_n (pc := 347) X 0 dX6_read_347 rfl rfl ?_
    refine r_get (pc := 348) (v := .ref (kB K + 59)) X 35 32 inX6 rfl rfl (by decide) tf_X6_79 rfl dX6_read_348 ?_
    refine r_iload (pc := 351) X 2 dX6_read_351 rfl ?_
    refine r_ckA (fun h54 => ?_)
    refine r_iald (pc := 353) (f := m1 32) X 59 h54 zl_8 rfl dX6_read_353 ?_
    refine r_ck1 (fun h55 => ?_)
    refine r_ck1 (fun h56 => ?_)
    refine r_icmp_ge (pc := 354) X h55 h56 dX6_read_354 (tgt := 389) (by decide) (fun h57 => ?_) (fun h57 => ?_)
    · refine r_sub [0, 1, 2] rfl ?_
      exact hk m1
    · refine r_aload_n (pc := 357) X 0 dX6_read_357 rfl rfl ?_
      refine r_get (pc := 358) (v := .ref (kB K + 37)) X 35 1 inX6 rfl rfl (by decide) tf_X6_13 rfl dX6_read_358 ?_
      refine r_bipush (pc := 361) X 40 dX6_read_361 (by decide) ?_
      refine r_iload (pc := 363) X 2 dX6_read_363 rfl ?_
      refine r_imul (pc := 365) X dX6_read_365 ?_
      refine r_iload (pc := 366) X 3 dX6_read_366 rfl ?_
      refine r_iadd (pc := 368) X dX6_read_368 ?_
      refine r_aload_n (pc := 369) X 0 dX6_read_369 rfl rfl ?_
      refine r_get (pc := 370) (v := .ref (kB K + 58)) X 35 31 inX6 rfl rfl (by decide) tf_X6_76 rfl dX6_read_370 ?_
      refine r_bipush (pc := 373) X 40 dX6_read_373 (by decide) ?_
      refine r_iload (pc := 375) X 2 dX6_read_375 rfl ?_
      refine r_imul (pc := 377) X dX6_read_377 ?_
      refine r_iload (pc := 378) X 3 dX6_read_378 rfl ?_
      refine r_iadd (pc := 380) X dX6_read_380 ?_
      refine r_ckA (fun h58 => ?_)
      refine r_iald (pc := 381) (f := m1 31) X 58 h58 zl_320 rfl dX6_read_381 ?_
      refine r_iast (pc := 382) (f := m1 1) (ws' := (Zw (kE K) lt b c ms rd (bS m1 1 (aS (m1 1) ((40 * x4) + x5) (m1 31 ((40 * x4) + x5)))) P)) X 37 h58 zl_320 rfl rfl dX6_read_382 ?_
      refine r_iinc (pc := 383) (lv' := [(0, .ref (kB K + 35)), (2, vI x2), (4, vI x4), (5, vI (x5 + 1))]) X 3 [1, 2, 3, 0] dX6_read_383 rfl (by decide) rfl ?_
      refine r_goto (pc := 386) X dX6_read_386 (tgt := 345) (by decide) ?_
      exact ih (x5 + 1) (bS m1 1 (aS (m1 1) ((40 * x4) + x5) (m1 31 ((40 * x4) + x5))))
set_option maxRecDepth 100000 in
set_option maxHeartbeats 4000000 in
theorem t_X6_read_L325 (N : Nat) (lt b c ms rd m : Bd) (P : PL) (x2 : Int) (K : KT) (X : Kok K cX6_read yX6_read.cls lw_g ({ frames := 5, cells := 0, slots := 0, locals := 117 } : Room) (some .int) 7) (k : Bd → Option (Int × Bd)) (hk : ∀ (m1 : Bd), Rn K (Q_X6_read K lt b c ms rd m P) 0 0 (k m1) 409 [(0, .ref (kB K + 35))] [] (Zw (kE K) lt b c ms rd m1 P)) : ∀ (n : Nat) (x4 : Int) (m1 : Bd), Rn K (Q_X6_read K lt b c ms rd m P) 0 0 (f_X6_read_L325 N x2 k n x4 m1) 325 [(0, .ref (kB K + 35)), (2, vI x2), (4, vI x4)] [] (Zw (kE K) lt b c ms rd m1 P) := by
  intro n
  induction n with
  | zero =>
    intro x4 m1
    rw [f_X6_read_L325]
    exact r_none
  | succ n ih =>
    intro x4 m1
    rw [f_X6_read_L325]
    refine r_iload (pc := 325) X 2 dX6_read_325 rfl ?_
    refine r_bipush (pc := 327) X 8 dX6_read_327 (by decide) ?_
    refine r_ck1 (fun h50 => ?_)
    refine r_icmp_ge (pc := 329) X h50 (by decide) dX6_read_329 (tgt := 409) (by decide) (fun h51 => ?_) (fun h51 => ?_)
    · refine r_sub [0] rfl ?_
      exact hk m1
    · refine r_iload_n (pc := 332) X 1 dX6_read_332 rfl rfl ?_
      refine r_iload (pc := 333) X 2 dX6_read_333 rfl ?_
      refine r_ishr (pc := 335) X dX6_read_335 ?_
      refine r_iconst (pc := 336) X 1 dX6_read_336 (by decide) ?_
      refine r_iand (pc := 337) X dX6_read_337 ?_
      refine r_iconst (pc := 338) X 1 dX6_read_338 (by decide) ?_
      refine r_ck1 (fun h52 => ?_)
      refine r_icmp_ne (pc := 339) X h52 (by decide) dX6_read_339 (tgt := 403) (by decide) (fun h53 => ?_) (fun h53 => ?_)
      · refine r_iinc (pc := 403) (lv' := [(0, .ref (kB K + 35)), (2, vI x2), (4, vI (x4 + 1))]) X 2 [1, 2, 0] dX6_read_403 rfl (by decide) rfl ?_
        refine r_goto (pc := 406) X dX6_read_406 (tgt := 325) (by decide) ?_
        exact ih (x4 + 1) m1
      · refine r_iconst (pc := 342) X 0 dX6_read_342 (by decide) ?_
        refine r_istore (pc := 343) (lv' := [(0, .ref (kB K + 35)), (2, vI x2), (4, vI x4), (5, vI 0)]) X [1, 2, 3, 0] dX6_read_343 (by decide) rfl ?_
        refine t_X6_read_L345 N lt b c ms rd m P  x2 x4 K X _ ?_ N 0 m1
        intro m_345
        refine r_aload_n (pc := 389) X 0 dX6_read_389 rfl rfl ?_
        refine r_get (pc := 390) (v := .ref (kB K + 36)) X 35 0 inX6 rfl rfl (by decide) tf_X6_7 rfl dX6_read_390 ?_
        refine r_iload (pc := 393) X 2 dX6_read_393 rfl ?_
        refine r_aload_n (pc := 395) X 0 dX6_read_395 rfl rfl ?_
        refine r_get (pc := 396) (v := .ref (kB K + 59)) X 35 32 inX6 rfl rfl (by decide) tf_X6_79 rfl dX6_read_396 ?_
        refine r_iload (pc := 399) X 2 dX6_read_399 rfl ?_
        refine r_ckA (fun h59 => ?_)
        refine r_iald (pc := 401) (f := m_345 32) X 59 h59 zl_8 rfl dX6_read_401 ?_
        refine r_iast (pc := 402) (f := m_345 0) (ws' := (Zw (kE K) lt b c ms rd (bS m_345 0 (aS (m_345 0) x4 (m_345 32 x4))) P)) X 36 h59 zl_8 rfl rfl dX6_read_402 ?_
        refine r_iinc (pc := 403) (lv' := [(0, .ref (kB K + 35)), (2, vI x2), (4, vI (x4 + 1))]) X 2 [1, 2, 0] dX6_read_403 rfl (by decide) rfl ?_
        refine r_goto (pc := 406) X dX6_read_406 (tgt := 325) (by decide) ?_
        exact ih (x4 + 1) (bS m_345 0 (aS (m_345 0) x4 (m_345 32 x4)))
set_option maxRecDepth 100000 in
set_option maxHeartbeats 4000000 in
theorem t_X6_read (N : Nat) (lt b c ms rd m : Bd) (P : PL) (K : KT) (X : Kok K cX6_read yX6_read.cls lw_g ({ frames := 5, cells := 0, slots := 0, locals := 117 } : Room) (some .int) 7) : Rn K (Q_X6_read K lt b c ms rd m P) 0 0 (f_X6_read N m) 0 [(0, .ref (kB K + 35))] [] (Zw (kE K) lt b c ms rd m P) := by
  unfold f_X6_read
  refine r_aload_n (pc := 0) X 0 dX6_read_0 rfl rfl ?_
  refine r_callV (pc := 1) (q0 := 35) (ci := 6) (As := []) (rest := []) (W' := fun q1_1 => (Zw (kE K) lt b c ms rd q1_1.2 P)) (rv := fun q1_1 => some (vI q1_1.1)) X dX6_read_1 rfl (fun a ha => c_X6_readsAll N lt b c ms rd m P K.1.2.1 K.2.2.1.1 (kE K) a ha) (fun a => Zw_d _ _ _ _ _ _ _ _) gd_X6_189 rfl (n := 0) (by decide) rfl (by decide) rfl rfl rfl (Nat.zero_le _) (fun q1_1 eq1_1 => ?_)
  show Rn K _ 0 0 _ 4 [(0, .ref (kB K + 35))] [vI q1_1.1] (Zw (kE K) lt b c ms rd q1_1.2 P)
  refine r_istore_n (pc := 4) (lv' := [(0, .ref (kB K + 35)), (1, vI q1_1.1)]) X [1, 0] dX6_read_4 rfl (by decide) rfl ?_
  refine r_iload_n (pc := 5) X 1 dX6_read_5 rfl rfl ?_
  refine r_iconst (pc := 6) X (-1) dX6_read_6 (by decide) ?_
  refine r_ck1 (fun h2 => ?_)
  refine r_icmp_eq (pc := 7) X h2 (by decide) dX6_read_7 (tgt := 15) (by decide) (fun h3 => ?_) (fun h3 => ?_)
  · refine r_iconst (pc := 15) X 0 dX6_read_15 (by decide) ?_
    refine r_istore_n (pc := 16) (lv' := [(0, .ref (kB K + 35)), (1, vI q1_1.1), (2, vI 0)]) X [1, 2, 0] dX6_read_16 rfl (by decide) rfl ?_
    refine r_iconst (pc := 17) X 0 dX6_read_17 (by decide) ?_
    refine r_istore_n (pc := 18) (lv' := [(0, .ref (kB K + 35)), (1, vI q1_1.1), (2, vI 0), (3, vI 0)]) X [1, 2, 3, 0] dX6_read_18 rfl (by decide) rfl ?_
    refine r_sub [0, 2, 3] rfl ?_
    refine t_X6_read_L19 N lt b c ms rd m P q1_1.2  K X _ ?_ N 0 0
    intro x2_19
    refine r_aload_n (pc := 50) X 0 dX6_read_50 rfl rfl ?_
    refine r_get (pc := 51) (v := vI (q1_1.2 10 0)) X 35 10 inX6 rfl rfl (by decide) tf_X6_94 rfl dX6_read_51 ?_
    refine r_istore_n (pc := 54) (lv' := [(0, .ref (kB K + 35)), (2, vI x2_19), (3, vI (q1_1.2 10 0))]) X [1, 2, 0] dX6_read_54 rfl (by decide) rfl ?_
    refine r_iconst (pc := 55) X 0 dX6_read_55 (by decide) ?_
    refine r_istore (pc := 56) (lv' := [(0, .ref (kB K + 35)), (2, vI x2_19), (3, vI (q1_1.2 10 0)), (4, vI 0)]) X [1, 2, 3, 0] dX6_read_56 (by decide) rfl ?_
    refine t_X6_read_L58 N lt b c ms rd m P  x2_19 (q1_1.2 10 0) K X _ ?_ N 0 q1_1.2
    intro m_58
    refine r_iconst (pc := 114) X 0 dX6_read_114 (by decide) ?_
    refine r_istore (pc := 115) (lv' := [(0, .ref (kB K + 35)), (2, vI x2_19), (3, vI (q1_1.2 10 0)), (4, vI 0)]) X [1, 2, 3, 0] dX6_read_115 (by decide) rfl ?_
    refine t_X6_read_L117 N lt b c ms rd m P  x2_19 (q1_1.2 10 0) K X _ ?_ N 0 m_58
    intro m_117
    refine r_iconst (pc := 216) X 0 dX6_read_216 (by decide) ?_
    refine r_istore (pc := 217) (lv' := [(0, .ref (kB K + 35)), (2, vI x2_19), (4, vI 0)]) X [1, 2, 0] dX6_read_217 (by decide) rfl ?_
    refine t_X6_read_L219 N lt b c ms rd m P  x2_19 K X _ ?_ N 0 m_117
    intro m_219
    refine r_aload_n (pc := 318) X 0 dX6_read_318 rfl rfl ?_
    refine r_callV (pc := 319) (q0 := 35) (ci := 6) (As := []) (rest := []) (W' := fun q319_49 => (Zw (kE K) lt b c ms rd q319_49 P)) (rv := fun q319_49 => none) X dX6_read_319 rfl (fun a ha => c_X6_keeps N lt b c ms rd m_219 P K.1.2.1 K.2.2.1.1 (kE K) a ha) (fun a => Zw_d _ _ _ _ _ _ _ _) gd_X6_141 rfl (n := 0) (by decide) rfl (by decide) rfl rfl rfl (Nat.zero_le _) (fun q319_49 eq319_49 => ?_)
    show Rn K _ 0 0 _ 322 [(0, .ref (kB K + 35)), (2, vI x2_19)] [] (Zw (kE K) lt b c ms rd q319_49 P)
    refine r_iconst (pc := 322) X 0 dX6_read_322 (by decide) ?_
    refine r_istore (pc := 323) (lv' := [(0, .ref (kB K + 35)), (2, vI x2_19), (4, vI 0)]) X [1, 2, 0] dX6_read_323 (by decide) rfl ?_
    refine t_X6_read_L325 N lt b c ms rd m P  x2_19 K X _ ?_ N 0 q319_49
    intro m_325
    refine r_aload_n (pc := 409) X 0 dX6_read_409 rfl rfl ?_
    refine r_get (pc := 410) (v := vI (m_325 33 0)) X 35 33 inX6 rfl rfl (by decide) tf_X6_180 rfl dX6_read_410 ?_
    exact r_iret (pc := 413) X rfl rfl (by decide) dX6_read_413
  · refine r_bipush (pc := 10) X (-10) dX6_read_10 (by decide) ?_
    refine r_iload_n (pc := 12) X 1 dX6_read_12 rfl rfl ?_
    refine r_isub (pc := 13) X dX6_read_13 ?_
    exact r_iret (pc := 14) X rfl rfl (by decide) dX6_read_14
theorem c_X6_read (N : Nat) (lt b c ms rd m : Bd) (P : PL) (l : Launch) (D : va_G) (E : ET) (a : Int × Bd) (ha : f_X6_read N m = some a) : Ct l yX6_read (Cond.code yX6_read cX6_read 7 (some .int) :: lw_g) ({ frames := 5, cells := 0, slots := 0, locals := 117 } : Room) D E [.ref (E.2.2.2 + 35)] (Zw E lt b c ms rd m P) (Zw E lt b c ms rd a.2 P) (some (vI a.1)) :=
  ct_of (av := fun E => [.ref (E.2.2.2 + 35)]) (W0 := fun E => Zw E lt b c ms rd m P) (W1 := fun E (a : Int × Bd) => Zw E lt b c ms rd a.2 P) (rw := fun E a => some (vI a.1)) (by decide) rfl (fun E => Zw_d E lt b c ms rd m P) (fun E => by simp [lg_sl, z_cat, z_catR, z_catI, z_catL]) (fun K X => r_lv (by simp [lv_args, z_cat, z_catR, z_catI, z_catL]) (t_X6_read N lt b c ms rd m P  K X)) l D E a ha
abbrev Q_X6_order (K : KT) (lt b c ms rd m : Bd) (P : PL) : (Int × Bd) → State → Prop := Qm K ({ frames := 1, cells := 0, slots := 0, locals := 22 } : Room) (fun a : Int × Bd => Zw (kE K) lt b c ms rd a.2 P) (fun a => some (vI a.1))
set_option maxRecDepth 100000 in
set_option maxHeartbeats 4000000 in
theorem t_X6_order (N : Nat) (lt b c ms rd m : Bd) (P : PL) (x1 : Int) (K : KT) (X : Kok K cX6_order yX6_order.cls lw_g ({ frames := 1, cells := 0, slots := 0, locals := 22 } : Room) (some .int) 3) : Rn K (Q_X6_order K lt b c ms rd m P) 0 0 (f_X6_order m x1) 0 [(0, .ref (kB K + 35)), (1, vI x1)] [] (Zw (kE K) lt b c ms rd m P) := by
  unfold f_X6_order
  refine r_iload_n (pc := 0) X 1 dX6_order_0 rfl rfl ?_
  refine r_iconst (pc := 1) X 0 dX6_order_1 (by decide) ?_
  refine r_iconst (pc := 2) X 4 dX6_order_2 (by decide) ?_
  refine r_callS (pc := 3) (As := [vI x1, vI 0, vI 4]) (rest := []) (W' := fun q3_1 => (Zw (kE K) lt b c ms rd m P)) (rv := fun q3_1 => some (vI q3_1)) X dX6_order_3 rfl (fun a ha => c_X6_in N lt b c ms rd m P x1 0 4 K.1.2.1 K.2.2.1.1 (kE K) a ha) (fun a => Zw_d _ _ _ _ _ _ _ _) gd_X6_86 rfl (n := 3) (by decide) rfl (by decide) (Nat.zero_le _) (fun q3_1 eq3_1 => ?_)
  show Rn K _ 0 0 _ 6 [(0, .ref (kB K + 35)), (1, vI x1)] [vI q3_1] (Zw (kE K) lt b c ms rd m P)
  refine r_ck1 (fun h2 => ?_)
  refine r_ifne (pc := 6) X h2 dX6_order_6 (tgt := 16) (by decide) (fun h3 => ?_) (fun h3 => ?_)
  · refine r_aload_n (pc := 16) X 0 dX6_order_16 rfl rfl ?_
    refine r_get (pc := 17) (v := vI (m 6 0)) X 35 6 inX6 rfl rfl (by decide) tf_X6_198 rfl dX6_order_17 ?_
    refine r_istore_n (pc := 20) (lv' := [(0, .ref (kB K + 35)), (1, vI x1), (2, vI (m 6 0))]) X [1, 2, 0] dX6_order_20 rfl (by decide) rfl ?_
    refine r_aload_n (pc := 21) X 0 dX6_order_21 rfl rfl ?_
    refine r_iload_n (pc := 22) X 1 dX6_order_22 rfl rfl ?_
    refine r_put (pc := 23) (ws' := (Zw (kE K) lt b c ms rd (bs0 m 6 x1) P)) X 35 6 inX6 tyX6 tyX6_ok nmX6 rfl rfl (by decide) tf_X6_198 rfl (tyX6_ok 6 (by decide)) rfl rfl (Nat.le_of_ble_eq_true rfl) rfl dX6_order_23 ?_
    refine r_iload_n (pc := 26) X 2 dX6_order_26 rfl rfl ?_
    exact r_iret (pc := 27) X rfl rfl (by decide) dX6_order_27
  · refine r_aload_n (pc := 9) X 0 dX6_order_9 rfl rfl ?_
    refine r_bipush (pc := 10) X (-2) dX6_order_10 (by decide) ?_
    refine r_callV (pc := 12) (q0 := 35) (ci := 6) (As := [vI (-2)]) (rest := []) (W' := fun q12_4 => (Zw (kE K) lt b c ms rd q12_4.2 P)) (rv := fun q12_4 => some (vI q12_4.1)) X dX6_order_12 rfl (fun a ha => c_X6_refuses N lt b c ms rd m P (-2) K.1.2.1 K.2.2.1.1 (kE K) a ha) (fun a => Zw_d _ _ _ _ _ _ _ _) gd_X6_138 rfl (n := 1) (by decide) rfl (by decide) rfl rfl rfl (Nat.zero_le _) (fun q12_4 eq12_4 => ?_)
    show Rn K _ 0 0 _ 15 [(0, .ref (kB K + 35)), (1, vI x1)] [vI q12_4.1] (Zw (kE K) lt b c ms rd q12_4.2 P)
    exact r_iret (pc := 15) X rfl rfl (by decide) dX6_order_15
theorem c_X6_order (N : Nat) (lt b c ms rd m : Bd) (P : PL) (x1 : Int) (l : Launch) (D : va_G) (E : ET) (a : Int × Bd) (ha : f_X6_order m x1 = some a) : Ct l yX6_order (Cond.code yX6_order cX6_order 3 (some .int) :: lw_g) ({ frames := 1, cells := 0, slots := 0, locals := 22 } : Room) D E [.ref (E.2.2.2 + 35), vI x1] (Zw E lt b c ms rd m P) (Zw E lt b c ms rd a.2 P) (some (vI a.1)) :=
  ct_of (av := fun E => [.ref (E.2.2.2 + 35), vI x1]) (W0 := fun E => Zw E lt b c ms rd m P) (W1 := fun E (a : Int × Bd) => Zw E lt b c ms rd a.2 P) (rw := fun E a => some (vI a.1)) (by decide) rfl (fun E => Zw_d E lt b c ms rd m P) (fun E => by simp [lg_sl, z_cat, z_catR, z_catI, z_catL]) (fun K X => r_lv (by simp [lv_args, z_cat, z_catR, z_catI, z_catL]) (t_X6_order N lt b c ms rd m P x1 K X)) l D E a ha
abbrev Q_X6_isName (K : KT) (lt b c ms rd m : Bd) (P : PL) : (Int) → State → Prop := Qm K ({ frames := 1, cells := 0, slots := 0, locals := 22 } : Room) (fun a : Int => Zw (kE K) lt b c ms rd m P) (fun a => some (vI a))
set_option maxRecDepth 100000 in
set_option maxHeartbeats 4000000 in
theorem t_X6_isName (N : Nat) (lt b c ms rd m : Bd) (P : PL) (x0 : Int) (K : KT) (X : Kok K cX6_isName yX6_isName.cls lw_g ({ frames := 1, cells := 0, slots := 0, locals := 22 } : Room) (some .boolean) 1) : Rn K (Q_X6_isName K lt b c ms rd m P) 0 0 (f_X6_isName x0) 0 [(0, vI x0)] [] (Zw (kE K) lt b c ms rd m P) := by
  unfold f_X6_isName
  refine r_iload_n (pc := 0) X 0 dX6_isName_0 rfl rfl ?_
  refine r_iconst (pc := 1) X 0 dX6_isName_1 (by decide) ?_
  refine r_bipush (pc := 2) X 7 dX6_isName_2 (by decide) ?_
  refine r_callS (pc := 4) (As := [vI x0, vI 0, vI 7]) (rest := []) (W' := fun q4_1 => (Zw (kE K) lt b c ms rd m P)) (rv := fun q4_1 => some (vI q4_1)) X dX6_isName_4 rfl (fun a ha => c_X6_in N lt b c ms rd m P x0 0 7 K.1.2.1 K.2.2.1.1 (kE K) a ha) (fun a => Zw_d _ _ _ _ _ _ _ _) gd_X6_86 rfl (n := 3) (by decide) rfl (by decide) (Nat.zero_le _) (fun q4_1 eq4_1 => ?_)
  show Rn K _ 0 0 _ 7 [(0, vI x0)] [vI q4_1] (Zw (kE K) lt b c ms rd m P)
  refine r_ckB (fun h2 => ?_)
  exact r_zret (pc := 7) X h2 rfl rfl (by decide) dX6_isName_7
theorem c_X6_isName (N : Nat) (lt b c ms rd m : Bd) (P : PL) (x0 : Int) (l : Launch) (D : va_G) (E : ET) (a : Int) (ha : f_X6_isName x0 = some a) : Ct l yX6_isName (Cond.code yX6_isName cX6_isName 1 (some .boolean) :: lw_g) ({ frames := 1, cells := 0, slots := 0, locals := 22 } : Room) D E [vI x0] (Zw E lt b c ms rd m P) (Zw E lt b c ms rd m P) (some (vI a)) :=
  ct_of (av := fun E => [vI x0]) (W0 := fun E => Zw E lt b c ms rd m P) (W1 := fun E (a : Int) => Zw E lt b c ms rd m P) (rw := fun E a => some (vI a)) (by decide) rfl (fun E => Zw_d E lt b c ms rd m P) (fun E => by simp [lg_sl, z_cat, z_catR, z_catI, z_catL]) (fun K X => r_lv (by simp [lv_args, z_cat, z_catR, z_catI, z_catL]) (t_X6_isName N lt b c ms rd m P x0 K X)) l D E a ha
abbrev Q_X6_has (K : KT) (lt b c ms rd m : Bd) (P : PL) : (Int) → State → Prop := Qm K ({ frames := 2, cells := 0, slots := 0, locals := 42 } : Room) (fun a : Int => Zw (kE K) lt b c ms rd m P) (fun a => some (vI a))
set_option maxRecDepth 100000 in
set_option maxHeartbeats 4000000 in
theorem t_X6_has (N : Nat) (lt b c ms rd m : Bd) (P : PL) (x1 : Int) (K : KT) (X : Kok K cX6_has yX6_has.cls lw_g ({ frames := 2, cells := 0, slots := 0, locals := 42 } : Room) (some .boolean) 2) : Rn K (Q_X6_has K lt b c ms rd m P) 0 0 (f_X6_has m x1) 0 [(0, .ref (kB K + 35)), (1, vI x1)] [] (Zw (kE K) lt b c ms rd m P) := by
  unfold f_X6_has
  refine r_iload_n (pc := 0) X 1 dX6_has_0 rfl rfl ?_
  refine r_callS (pc := 1) (As := [vI x1]) (rest := []) (W' := fun q1_1 => (Zw (kE K) lt b c ms rd m P)) (rv := fun q1_1 => some (vI q1_1)) X dX6_has_1 rfl (fun a ha => c_X6_isName N lt b c ms rd m P x1 K.1.2.1 K.2.2.1.1 (kE K) a ha) (fun a => Zw_d _ _ _ _ _ _ _ _) gd_X6_90 rfl (n := 1) (by decide) rfl (by decide) (Nat.zero_le _) (fun q1_1 eq1_1 => ?_)
  show Rn K _ 0 0 _ 4 [(0, .ref (kB K + 35)), (1, vI x1)] [vI q1_1] (Zw (kE K) lt b c ms rd m P)
  refine r_ck1 (fun h2 => ?_)
  refine r_ifeq (pc := 4) X h2 dX6_has_4 (tgt := 20) (by decide) (fun h3 => ?_) (fun h3 => ?_)
  · refine r_iconst (pc := 20) X 0 dX6_has_20 (by decide) ?_
    exact r_zret (pc := 21) X (by decide) rfl rfl (by decide) dX6_has_21
  · refine r_aload_n (pc := 7) X 0 dX6_has_7 rfl rfl ?_
    refine r_get (pc := 8) (v := .ref (kB K + 36)) X 35 0 inX6 rfl rfl (by decide) tf_X6_7 rfl dX6_has_8 ?_
    refine r_iload_n (pc := 11) X 1 dX6_has_11 rfl rfl ?_
    refine r_ckA (fun h4 => ?_)
    refine r_iald (pc := 12) (f := m 0) X 36 h4 zl_8 rfl dX6_has_12 ?_
    refine r_ck1 (fun h5 => ?_)
    refine r_ifle (pc := 13) X h5 dX6_has_13 (tgt := 20) (by decide) (fun h6 => ?_) (fun h6 => ?_)
    · refine r_iconst (pc := 20) X 0 dX6_has_20 (by decide) ?_
      exact r_zret (pc := 21) X (by decide) rfl rfl (by decide) dX6_has_21
    · refine r_iconst (pc := 16) X 1 dX6_has_16 (by decide) ?_
      refine r_goto (pc := 17) X dX6_has_17 (tgt := 21) (by decide) ?_
      exact r_zret (pc := 21) X (by decide) rfl rfl (by decide) dX6_has_21
theorem c_X6_has (N : Nat) (lt b c ms rd m : Bd) (P : PL) (x1 : Int) (l : Launch) (D : va_G) (E : ET) (a : Int) (ha : f_X6_has m x1 = some a) : Ct l yX6_has (Cond.code yX6_has cX6_has 2 (some .boolean) :: lw_g) ({ frames := 2, cells := 0, slots := 0, locals := 42 } : Room) D E [.ref (E.2.2.2 + 35), vI x1] (Zw E lt b c ms rd m P) (Zw E lt b c ms rd m P) (some (vI a)) :=
  ct_of (av := fun E => [.ref (E.2.2.2 + 35), vI x1]) (W0 := fun E => Zw E lt b c ms rd m P) (W1 := fun E (a : Int) => Zw E lt b c ms rd m P) (rw := fun E a => some (vI a)) (by decide) rfl (fun E => Zw_d E lt b c ms rd m P) (fun E => by simp [lg_sl, z_cat, z_catR, z_catI, z_catL]) (fun K X => r_lv (by simp [lv_args, z_cat, z_catR, z_catI, z_catL]) (t_X6_has N lt b c ms rd m P x1 K X)) l D E a ha
abbrev Q_X6_both (K : KT) (lt b c ms rd m : Bd) (P : PL) : (Int × Bd) → State → Prop := Qm K ({ frames := 3, cells := 0, slots := 0, locals := 69 } : Room) (fun a : Int × Bd => Zw (kE K) lt b c ms rd a.2 P) (fun a => some (vI a.1))
set_option maxRecDepth 100000 in
set_option maxHeartbeats 4000000 in
theorem t_X6_both (N : Nat) (lt b c ms rd m : Bd) (P : PL) (x1 x2 : Int) (K : KT) (X : Kok K cX6_both yX6_both.cls lw_g ({ frames := 3, cells := 0, slots := 0, locals := 69 } : Room) (some .int) 3) : Rn K (Q_X6_both K lt b c ms rd m P) 0 0 (f_X6_both N m x1 x2) 0 [(0, .ref (kB K + 35)), (1, vI x1), (2, vI x2)] [] (Zw (kE K) lt b c ms rd m P) := by
  unfold f_X6_both
  refine r_aload_n (pc := 0) X 0 dX6_both_0 rfl rfl ?_
  refine r_iconst (pc := 1) X 0 dX6_both_1 (by decide) ?_
  refine r_put (pc := 2) (ws' := (Zw (kE K) lt b c ms rd (bs0 m 10 0) P)) X 35 10 inX6 tyX6 tyX6_ok nmX6 rfl rfl (by decide) tf_X6_94 rfl (tyX6_ok 10 (by decide)) rfl rfl (Nat.le_of_ble_eq_true rfl) rfl dX6_both_2 ?_
  refine r_aload_n (pc := 5) X 0 dX6_both_5 rfl rfl ?_
  refine r_iload_n (pc := 6) X 1 dX6_both_6 rfl rfl ?_
  refine r_callV (pc := 7) (q0 := 35) (ci := 6) (As := [vI x1]) (rest := []) (W' := fun q7_1 => (Zw (kE K) lt b c ms rd q7_1.2 P)) (rv := fun q7_1 => some (vI q7_1.1)) X dX6_both_7 rfl (fun a ha => c_X6_loads N lt b c ms rd (bs0 m 10 0) P x1 K.1.2.1 K.2.2.1.1 (kE K) a ha) (fun a => Zw_d _ _ _ _ _ _ _ _) gd_X6_192 rfl (n := 1) (by decide) rfl (by decide) rfl rfl rfl (Nat.zero_le _) (fun q7_1 eq7_1 => ?_)
  show Rn K _ 0 0 _ 10 [(0, .ref (kB K + 35)), (1, vI x1), (2, vI x2)] [vI q7_1.1] (Zw (kE K) lt b c ms rd q7_1.2 P)
  refine r_pop (pc := 10) X dX6_both_10 rfl ?_
  refine r_aload_n (pc := 11) X 0 dX6_both_11 rfl rfl ?_
  refine r_iload_n (pc := 12) X 2 dX6_both_12 rfl rfl ?_
  refine r_callV (pc := 13) (q0 := 35) (ci := 6) (As := [vI x2]) (rest := []) (W' := fun q13_2 => (Zw (kE K) lt b c ms rd q13_2.2 P)) (rv := fun q13_2 => some (vI q13_2.1)) X dX6_both_13 rfl (fun a ha => c_X6_loads N lt b c ms rd q7_1.2 P x2 K.1.2.1 K.2.2.1.1 (kE K) a ha) (fun a => Zw_d _ _ _ _ _ _ _ _) gd_X6_192 rfl (n := 1) (by decide) rfl (by decide) rfl rfl rfl (Nat.zero_le _) (fun q13_2 eq13_2 => ?_)
  show Rn K _ 0 0 _ 16 [(0, .ref (kB K + 35)), (1, vI x1), (2, vI x2)] [vI q13_2.1] (Zw (kE K) lt b c ms rd q13_2.2 P)
  exact r_iret (pc := 16) X rfl rfl (by decide) dX6_both_16
theorem c_X6_both (N : Nat) (lt b c ms rd m : Bd) (P : PL) (x1 x2 : Int) (l : Launch) (D : va_G) (E : ET) (a : Int × Bd) (ha : f_X6_both N m x1 x2 = some a) : Ct l yX6_both (Cond.code yX6_both cX6_both 3 (some .int) :: lw_g) ({ frames := 3, cells := 0, slots := 0, locals := 69 } : Room) D E [.ref (E.2.2.2 + 35), vI x1, vI x2] (Zw E lt b c ms rd m P) (Zw E lt b c ms rd a.2 P) (some (vI a.1)) :=
  ct_of (av := fun E => [.ref (E.2.2.2 + 35), vI x1, vI x2]) (W0 := fun E => Zw E lt b c ms rd m P) (W1 := fun E (a : Int × Bd) => Zw E lt b c ms rd a.2 P) (rw := fun E a => some (vI a.1)) (by decide) rfl (fun E => Zw_d E lt b c ms rd m P) (fun E => by simp [lg_sl, z_cat, z_catR, z_catI, z_catL]) (fun K X => r_lv (by simp [lv_args, z_cat, z_catR, z_catI, z_catL]) (t_X6_both N lt b c ms rd m P x1 x2 K X)) l D E a ha
abbrev Q_X6_goes (K : KT) (lt b c ms rd m : Bd) (P : PL) : (Int) → State → Prop := Qm K ({ frames := 1, cells := 0, slots := 0, locals := 20 } : Room) (fun a : Int => Zw (kE K) lt b c ms rd m P) (fun a => some (vI a))
set_option maxRecDepth 100000 in
set_option maxHeartbeats 4000000 in
theorem t_X6_goes (N : Nat) (lt b c ms rd m : Bd) (P : PL) (x1 x2 : Int) (K : KT) (X : Kok K cX6_goes yX6_goes.cls lw_g ({ frames := 1, cells := 0, slots := 0, locals := 20 } : Room) (some .int) 3) : Rn K (Q_X6_goes K lt b c ms rd m P) 0 0 (f_X6_goes m x1 x2) 0 [(0, .ref (kB K + 35)), (1, vI x1), (2, vI x2)] [] (Zw (kE K) lt b c ms rd m P) := by
  unfold f_X6_goes
  refine r_aload_n (pc := 0) X 0 dX6_goes_0 rfl rfl ?_
  refine r_get (pc := 1) (v := vI (m 6 0)) X 35 6 inX6 rfl rfl (by decide) tf_X6_198 rfl dX6_goes_1 ?_
  refine r_iconst (pc := 4) X 3 dX6_goes_4 (by decide) ?_
  refine r_ck1 (fun h1 => ?_)
  refine r_icmp_ne (pc := 5) X h1 (by decide) dX6_goes_5 (tgt := 30) (by decide) (fun h2 => ?_) (fun h2 => ?_)
  · refine r_iload_n (pc := 30) X 1 dX6_goes_30 rfl rfl ?_
    refine r_ck1 (fun h3 => ?_)
    refine r_ifeq (pc := 31) X h3 dX6_goes_31 (tgt := 39) (by decide) (fun h4 => ?_) (fun h4 => ?_)
    · refine r_iconst (pc := 39) X 1 dX6_goes_39 (by decide) ?_
      exact r_iret (pc := 40) X rfl rfl (by decide) dX6_goes_40
    · refine r_iload_n (pc := 34) X 2 dX6_goes_34 rfl rfl ?_
      refine r_iconst (pc := 35) X 3 dX6_goes_35 (by decide) ?_
      refine r_ck1 (fun h5 => ?_)
      refine r_icmp_ne (pc := 36) X h5 (by decide) dX6_goes_36 (tgt := 41) (by decide) (fun h6 => ?_) (fun h6 => ?_)
      · refine r_iload_n (pc := 41) X 1 dX6_goes_41 rfl rfl ?_
        refine r_iload_n (pc := 42) X 2 dX6_goes_42 rfl rfl ?_
        refine r_jn (J := fun j64 => Rn K (Q_X6_goes K lt b c ms rd m P) 0 0 j64 64 [(0, .ref (kB K + 35)), (1, vI x1), (2, vI x2)] [] (Zw (kE K) lt b c ms rd m P)) ?_ (fun j64 hj64 => ?_)
        · skip
          refine r_iload_n (pc := 64) X 1 dX6_goes_64 rfl rfl ?_
          refine r_iconst (pc := 65) X 1 dX6_goes_65 (by decide) ?_
          refine r_jn (J := fun j82 => Rn K (Q_X6_goes K lt b c ms rd m P) 0 0 j82 82 [(0, .ref (kB K + 35)), (1, vI x1), (2, vI x2)] [] (Zw (kE K) lt b c ms rd m P)) ?_ (fun j82 hj82 => ?_)
          · skip
            refine r_iload_n (pc := 82) X 1 dX6_goes_82 rfl rfl ?_
            refine r_iconst (pc := 83) X 2 dX6_goes_83 (by decide) ?_
            refine r_icmp_ne (pc := 84) X h3 (by decide) dX6_goes_84 (tgt := 104) (by decide) (fun h7 => ?_) (fun h7 => ?_)
            · refine r_iconst (pc := 104) X 0 dX6_goes_104 (by decide) ?_
              exact r_iret (pc := 105) X rfl rfl (by decide) dX6_goes_105
            · refine r_iload_n (pc := 87) X 2 dX6_goes_87 rfl rfl ?_
              refine r_iconst (pc := 88) X 1 dX6_goes_88 (by decide) ?_
              refine r_icmp_ne (pc := 89) X h5 (by decide) dX6_goes_89 (tgt := 104) (by decide) (fun h8 => ?_) (fun h8 => ?_)
              · refine r_iconst (pc := 104) X 0 dX6_goes_104 (by decide) ?_
                exact r_iret (pc := 105) X rfl rfl (by decide) dX6_goes_105
              · refine r_aload_n (pc := 92) X 0 dX6_goes_92 rfl rfl ?_
                refine r_get (pc := 93) (v := vI (m 6 0)) X 35 6 inX6 rfl rfl (by decide) tf_X6_198 rfl dX6_goes_93 ?_
                refine r_iconst (pc := 96) X 4 dX6_goes_96 (by decide) ?_
                refine r_icmp_ne (pc := 97) X h1 (by decide) dX6_goes_97 (tgt := 104) (by decide) (fun h9 => ?_) (fun h9 => ?_)
                · refine r_iconst (pc := 104) X 0 dX6_goes_104 (by decide) ?_
                  exact r_iret (pc := 105) X rfl rfl (by decide) dX6_goes_105
                · refine r_iconst (pc := 100) X 1 dX6_goes_100 (by decide) ?_
                  refine r_goto (pc := 101) X dX6_goes_101 (tgt := 105) (by decide) ?_
                  exact r_iret (pc := 105) X rfl rfl (by decide) dX6_goes_105
          refine r_icmp_ne (pc := 66) X h3 (by decide) dX6_goes_66 (tgt := 82) (by decide) (fun h10 => ?_) (fun h10 => ?_)
          · exact hj82
          · refine r_iload_n (pc := 69) X 2 dX6_goes_69 rfl rfl ?_
            refine r_iconst (pc := 70) X 2 dX6_goes_70 (by decide) ?_
            refine r_icmp_ne (pc := 71) X h5 (by decide) dX6_goes_71 (tgt := 82) (by decide) (fun h11 => ?_) (fun h11 => ?_)
            · exact hj82
            · refine r_aload_n (pc := 74) X 0 dX6_goes_74 rfl rfl ?_
              refine r_get (pc := 75) (v := vI (m 6 0)) X 35 6 inX6 rfl rfl (by decide) tf_X6_198 rfl dX6_goes_75 ?_
              refine r_iconst (pc := 78) X 1 dX6_goes_78 (by decide) ?_
              refine r_icmp_ne (pc := 79) X h1 (by decide) dX6_goes_79 (tgt := 100) (by decide) (fun h12 => ?_) (fun h12 => ?_)
              · refine r_iconst (pc := 100) X 1 dX6_goes_100 (by decide) ?_
                refine r_goto (pc := 101) X dX6_goes_101 (tgt := 105) (by decide) ?_
                exact r_iret (pc := 105) X rfl rfl (by decide) dX6_goes_105
              · exact hj82
        refine r_icmp_ne (pc := 43) X h3 h5 dX6_goes_43 (tgt := 64) (by decide) (fun h13 => ?_) (fun h13 => ?_)
        · exact hj64
        · refine r_iload_n (pc := 46) X 1 dX6_goes_46 rfl rfl ?_
          refine r_iconst (pc := 47) X 3 dX6_goes_47 (by decide) ?_
          refine r_icmp_eq (pc := 48) X h3 (by decide) dX6_goes_48 (tgt := 64) (by decide) (fun h14 => ?_) (fun h14 => ?_)
          · exact hj64
          · refine r_iload_n (pc := 51) X 1 dX6_goes_51 rfl rfl ?_
            refine r_callS (pc := 52) (As := [vI x1]) (rest := []) (W' := fun q52_15 => (Zw (kE K) lt b c ms rd m P)) (rv := fun q52_15 => some (vI q52_15)) X dX6_goes_52 rfl (fun a ha => c_X6_parts N lt b c ms rd m P x1 K.1.2.1 K.2.2.1.1 (kE K) a ha) (fun a => Zw_d _ _ _ _ _ _ _ _) gd_X6_113 rfl (n := 1) (by decide) rfl (by decide) (Nat.zero_le _) (fun q52_15 eq52_15 => ?_)
            show Rn K _ 0 0 _ 55 [(0, .ref (kB K + 35)), (1, vI x1), (2, vI x2)] [vI q52_15] (Zw (kE K) lt b c ms rd m P)
            refine r_ck1 (fun h16 => ?_)
            refine r_jn (J := fun j63 => ∀ (s_63 : Int), Rn K (Q_X6_goes K lt b c ms rd m P) 0 0 (j63 s_63) 63 [(0, .ref (kB K + 35)), (1, vI x1), (2, vI x2)] [vI s_63] (Zw (kE K) lt b c ms rd m P)) ?_ (fun j63 hj63 => ?_)
            · intro s_63
              exact r_iret (pc := 63) X rfl rfl (by decide) dX6_goes_63
            refine r_eq (z_ite j63) ?_
            refine r_ifle (pc := 55) X h16 dX6_goes_55 (tgt := 62) (by decide) (fun h17 => ?_) (fun h17 => ?_)
            · refine r_iconst (pc := 62) X 1 dX6_goes_62 (by decide) ?_
              exact hj63 1
            · refine r_iconst (pc := 58) X 2 dX6_goes_58 (by decide) ?_
              refine r_goto (pc := 59) X dX6_goes_59 (tgt := 63) (by decide) ?_
              exact hj63 2
      · refine r_iconst (pc := 39) X 1 dX6_goes_39 (by decide) ?_
        exact r_iret (pc := 40) X rfl rfl (by decide) dX6_goes_40
  · refine r_iload_n (pc := 8) X 1 dX6_goes_8 rfl rfl ?_
    refine r_iload_n (pc := 9) X 2 dX6_goes_9 rfl rfl ?_
    refine r_ck1 (fun h18 => ?_)
    refine r_ck1 (fun h19 => ?_)
    refine r_icmp_eq (pc := 10) X h18 h19 dX6_goes_10 (tgt := 17) (by decide) (fun h20 => ?_) (fun h20 => ?_)
    · refine r_iload_n (pc := 17) X 1 dX6_goes_17 rfl rfl ?_
      refine r_callS (pc := 18) (As := [vI x1]) (rest := []) (W' := fun q18_21 => (Zw (kE K) lt b c ms rd m P)) (rv := fun q18_21 => some (vI q18_21)) X dX6_goes_18 rfl (fun a ha => c_X6_parts N lt b c ms rd m P x1 K.1.2.1 K.2.2.1.1 (kE K) a ha) (fun a => Zw_d _ _ _ _ _ _ _ _) gd_X6_113 rfl (n := 1) (by decide) rfl (by decide) (Nat.zero_le _) (fun q18_21 eq18_21 => ?_)
      show Rn K _ 0 0 _ 21 [(0, .ref (kB K + 35)), (1, vI x1), (2, vI x2)] [vI q18_21] (Zw (kE K) lt b c ms rd m P)
      refine r_ck1 (fun h22 => ?_)
      refine r_ifle (pc := 21) X h22 dX6_goes_21 (tgt := 28) (by decide) (fun h23 => ?_) (fun h23 => ?_)
      · refine r_iconst (pc := 28) X 1 dX6_goes_28 (by decide) ?_
        exact r_iret (pc := 29) X rfl rfl (by decide) dX6_goes_29
      · refine r_iconst (pc := 24) X 2 dX6_goes_24 (by decide) ?_
        refine r_goto (pc := 25) X dX6_goes_25 (tgt := 29) (by decide) ?_
        exact r_iret (pc := 29) X rfl rfl (by decide) dX6_goes_29
    · refine r_iconst (pc := 13) X 0 dX6_goes_13 (by decide) ?_
      refine r_goto (pc := 14) X dX6_goes_14 (tgt := 29) (by decide) ?_
      exact r_iret (pc := 29) X rfl rfl (by decide) dX6_goes_29
theorem c_X6_goes (N : Nat) (lt b c ms rd m : Bd) (P : PL) (x1 x2 : Int) (l : Launch) (D : va_G) (E : ET) (a : Int) (ha : f_X6_goes m x1 x2 = some a) : Ct l yX6_goes (Cond.code yX6_goes cX6_goes 3 (some .int) :: lw_g) ({ frames := 1, cells := 0, slots := 0, locals := 20 } : Room) D E [.ref (E.2.2.2 + 35), vI x1, vI x2] (Zw E lt b c ms rd m P) (Zw E lt b c ms rd m P) (some (vI a)) :=
  ct_of (av := fun E => [.ref (E.2.2.2 + 35), vI x1, vI x2]) (W0 := fun E => Zw E lt b c ms rd m P) (W1 := fun E (a : Int) => Zw E lt b c ms rd m P) (rw := fun E a => some (vI a)) (by decide) rfl (fun E => Zw_d E lt b c ms rd m P) (fun E => by simp [lg_sl, z_cat, z_catR, z_catI, z_catL]) (fun K X => r_lv (by simp [lv_args, z_cat, z_catR, z_catI, z_catL]) (t_X6_goes N lt b c ms rd m P x1 x2 K X)) l D E a ha
abbrev Q_X6_clash (K : KT) (lt b c ms rd m : Bd) (P : PL) : (Int × Bd) → State → Prop := Qm K ({ frames := 2, cells := 0, slots := 0, locals := 42 } : Room) (fun a : Int × Bd => Zw (kE K) lt b c ms rd a.2 P) (fun a => some (vI a.1))
set_option maxRecDepth 100000 in
set_option maxHeartbeats 4000000 in
theorem t_X6_clash_L8 (N : Nat) (lt b c ms rd m : Bd) (P : PL) (x1 x2 x3 : Int) (K : KT) (X : Kok K cX6_clash yX6_clash.cls lw_g ({ frames := 2, cells := 0, slots := 0, locals := 42 } : Room) (some .int) 12) (k : Bd → Option (Int × Bd)) (hk : ∀ (m1 : Bd), Rn K (Q_X6_clash K lt b c ms rd m P) 0 0 (k m1) 30 [(0, .ref (kB K + 35)), (1, vI x1), (2, vI x2), (3, vI x3)] [] (Zw (kE K) lt b c ms rd m1 P)) : ∀ (n : Nat) (x4 : Int) (m1 : Bd), Rn K (Q_X6_clash K lt b c ms rd m P) 0 0 (f_X6_clash_L8 x1 x2 x3 k n x4 m1) 8 [(0, .ref (kB K + 35)), (1, vI x1), (2, vI x2), (3, vI x3), (4, vI x4)] [] (Zw (kE K) lt b c ms rd m1 P) := by
  intro n
  induction n with
  | zero =>
    intro x4 m1
    rw [f_X6_clash_L8]
    exact r_none
  | succ n ih =>
    intro x4 m1
    rw [f_X6_clash_L8]
    refine r_iload (pc := 8) X 4 dX6_clash_8 rfl ?_
    refine r_iload_n (pc := 10) X 3 dX6_clash_10 rfl rfl ?_
    refine r_iload_n (pc := 11) X 3 dX6_clash_11 rfl rfl ?_
    refine r_imul (pc := 12) X dX6_clash_12 ?_
    refine r_ck1 (fun h1 => ?_)
    refine r_ck1 (fun h2 => ?_)
    refine r_icmp_ge (pc := 13) X h1 h2 dX6_clash_13 (tgt := 30) (by decide) (fun h3 => ?_) (fun h3 => ?_)
    · refine r_sub [0, 1, 2, 3] rfl ?_
      exact hk m1
    · refine r_aload_n (pc := 16) X 0 dX6_clash_16 rfl rfl ?_
      refine r_get (pc := 17) (v := .ref (kB K + 49)) X 35 18 inX6 rfl rfl (by decide) tf_X6_49 rfl dX6_clash_17 ?_
      refine r_iload (pc := 20) X 4 dX6_clash_20 rfl ?_
      refine r_iconst (pc := 22) X 0 dX6_clash_22 (by decide) ?_
      refine r_ckA (fun h4 => ?_)
      refine r_iast (pc := 23) (f := m1 18) (ws' := (Zw (kE K) lt b c ms rd (bS m1 18 (aS (m1 18) x4 0)) P)) X 49 h4 zl_6400 rfl rfl dX6_clash_23 ?_
      refine r_iinc (pc := 24) (lv' := [(0, .ref (kB K + 35)), (1, vI x1), (2, vI x2), (3, vI x3), (4, vI (x4 + 1))]) X 4 [1, 2, 3, 4, 0] dX6_clash_24 rfl (by decide) rfl ?_
      refine r_goto (pc := 27) X dX6_clash_27 (tgt := 8) (by decide) ?_
      exact ih (x4 + 1) (bS m1 18 (aS (m1 18) x4 0))
set_option maxRecDepth 100000 in
set_option maxHeartbeats 4000000 in
theorem t_X6_clash_L132 (N : Nat) (lt b c ms rd m : Bd) (P : PL) (x3 x5 x6 x7 x8 : Int) (K : KT) (X : Kok K cX6_clash yX6_clash.cls lw_g ({ frames := 2, cells := 0, slots := 0, locals := 42 } : Room) (some .int) 12) (k : Int → Bd → Option (Int × Bd)) (hk : ∀ (x4 : Int) (m1 : Bd), Rn K (Q_X6_clash K lt b c ms rd m P) 0 0 (k x4 m1) 287 [(0, .ref (kB K + 35)), (3, vI x3), (4, vI x4), (5, vI x5)] [] (Zw (kE K) lt b c ms rd m1 P)) : ∀ (n : Nat) (x4 : Int) (x9 : Int) (m1 : Bd), Rn K (Q_X6_clash K lt b c ms rd m P) 0 0 (f_X6_clash_L132 x3 x5 x6 x7 x8 k n x4 x9 m1) 132 [(0, .ref (kB K + 35)), (3, vI x3), (4, vI x4), (5, vI x5), (6, vI x6), (7, vI x7), (8, vI x8), (9, vI x9)] [] (Zw (kE K) lt b c ms rd m1 P) := by
  intro n
  induction n with
  | zero =>
    intro x4 x9 m1
    rw [f_X6_clash_L132]
    exact r_none
  | succ n ih =>
    intro x4 x9 m1
    rw [f_X6_clash_L132]
    refine r_iload (pc := 132) X 7 dX6_clash_132 rfl ?_
    refine r_iload (pc := 134) X 4 dX6_clash_134 rfl ?_
    refine r_callS (pc := 136) (As := [vI x6]) (rest := [vI x9]) (W' := fun q136_20 => (Zw (kE K) lt b c ms rd m1 P)) (rv := fun q136_20 => some (vI q136_20)) X dX6_clash_136 rfl (fun a ha => c_X6_headOf N lt b c ms rd m1 P x6 K.1.2.1 K.2.2.1.1 (kE K) a ha) (fun a => Zw_d _ _ _ _ _ _ _ _) gd_X6_102 rfl (n := 1) (by decide) rfl (by decide) (by simp [z_cat, z_catR, z_catI, z_catL]) (fun q136_20 eq136_20 => ?_)
    show Rn K _ 0 0 _ 139 [(0, .ref (kB K + 35)), (3, vI x3), (4, vI x4), (5, vI x5), (6, vI x6), (7, vI x7), (8, vI x8), (9, vI x9)] [vI q136_20, vI x9] (Zw (kE K) lt b c ms rd m1 P)
    refine r_callS (pc := 139) (As := [vI q136_20]) (rest := [vI x9]) (W' := fun q139_21 => (Zw (kE K) lt b c ms rd m1 P)) (rv := fun q139_21 => some (vI q139_21)) X dX6_clash_139 rfl (fun a ha => c_X6_parts N lt b c ms rd m1 P q136_20 K.1.2.1 K.2.2.1.1 (kE K) a ha) (fun a => Zw_d _ _ _ _ _ _ _ _) gd_X6_113 rfl (n := 1) (by decide) rfl (by decide) (by simp [z_cat, z_catR, z_catI, z_catL]) (fun q139_21 eq139_21 => ?_)
    show Rn K _ 0 0 _ 142 [(0, .ref (kB K + 35)), (3, vI x3), (4, vI x4), (5, vI x5), (6, vI x6), (7, vI x7), (8, vI x8), (9, vI x9)] [vI q139_21, vI x9] (Zw (kE K) lt b c ms rd m1 P)
    refine r_ck1 (fun h22 => ?_)
    refine r_ck1 (fun h23 => ?_)
    refine r_icmp_ge (pc := 142) X h22 h23 dX6_clash_142 (tgt := 287) (by decide) (fun h24 => ?_) (fun h24 => ?_)
    · refine r_sub [0, 1, 2, 3] rfl ?_
      exact hk x4 m1
    · refine r_iload (pc := 145) X 6 dX6_clash_145 rfl ?_
      refine r_iconst (pc := 147) X 2 dX6_clash_147 (by decide) ?_
      refine r_ck1 (fun h25 => ?_)
      refine r_icmp_ne (pc := 148) X h25 (by decide) dX6_clash_148 (tgt := 287) (by decide) (fun h26 => ?_) (fun h26 => ?_)
      · refine r_sub [0, 1, 2, 3] rfl ?_
        exact hk x4 m1
      · refine r_iload (pc := 151) X 4 dX6_clash_151 rfl ?_
        refine r_callS (pc := 153) (As := [vI x6]) (rest := []) (W' := fun q153_27 => (Zw (kE K) lt b c ms rd m1 P)) (rv := fun q153_27 => some (vI q153_27)) X dX6_clash_153 rfl (fun a ha => c_X6_headOf N lt b c ms rd m1 P x6 K.1.2.1 K.2.2.1.1 (kE K) a ha) (fun a => Zw_d _ _ _ _ _ _ _ _) gd_X6_102 rfl (n := 1) (by decide) rfl (by decide) (Nat.zero_le _) (fun q153_27 eq153_27 => ?_)
        show Rn K _ 0 0 _ 156 [(0, .ref (kB K + 35)), (3, vI x3), (4, vI x4), (5, vI x5), (6, vI x6), (7, vI x7), (8, vI x8), (9, vI x9)] [vI q153_27] (Zw (kE K) lt b c ms rd m1 P)
        refine r_bipush (pc := 156) X 6 dX6_clash_156 (by decide) ?_
        refine r_jn (J := fun j187 => ∀ (s0_187 : Int), Rn K (Q_X6_clash K lt b c ms rd m P) 0 0 (j187 s0_187) 187 [(0, .ref (kB K + 35)), (3, vI x3), (4, vI x4), (5, vI x5), (6, vI x6), (7, vI x7), (8, vI x8), (9, vI x9)] [vI s0_187] (Zw (kE K) lt b c ms rd m1 P)) ?_ (fun j187 hj187 => ?_)
        · intro s0_187
          refine r_istore (pc := 187) (lv' := [(0, .ref (kB K + 35)), (3, vI x3), (4, vI x4), (5, vI x5), (6, vI x6), (7, vI x7), (8, vI x8), (9, vI x9), (10, vI s0_187)]) X [1, 2, 3, 4, 5, 6, 7, 8, 0] dX6_clash_187 (by decide) rfl ?_
          refine r_iload (pc := 189) X 8 dX6_clash_189 rfl ?_
          refine r_jn (J := fun j231 => ∀ (s0_231 : Int), Rn K (Q_X6_clash K lt b c ms rd m P) 0 0 (j231 s0_231) 231 [(0, .ref (kB K + 35)), (3, vI x3), (4, vI x4), (5, vI x5), (6, vI x6), (7, vI x7), (8, vI x8), (9, vI x9)] [vI s0_231] (Zw (kE K) lt b c ms rd m1 P)) ?_ (fun j231 hj231 => ?_)
          · intro s0_231
            refine r_istore (pc := 231) (lv' := [(0, .ref (kB K + 35)), (3, vI x3), (4, vI x4), (5, vI x5), (6, vI x6), (7, vI x7), (8, vI x8), (9, vI x9), (11, vI s0_231)]) X [1, 2, 3, 4, 5, 6, 7, 8, 0] dX6_clash_231 (by decide) rfl ?_
            refine r_aload_n (pc := 233) X 0 dX6_clash_233 rfl rfl ?_
            refine r_get (pc := 234) (v := .ref (kB K + 49)) X 35 18 inX6 rfl rfl (by decide) tf_X6_49 rfl dX6_clash_234 ?_
            refine r_iload (pc := 237) X 8 dX6_clash_237 rfl ?_
            refine r_ckA (fun h28 => ?_)
            refine r_iald (pc := 239) (f := m1 18) X 49 h28 zl_6400 rfl dX6_clash_239 ?_
            refine r_ck1 (fun h29 => ?_)
            refine r_ifne (pc := 240) X h29 dX6_clash_240 (tgt := 281) (by decide) (fun h30 => ?_) (fun h30 => ?_)
            · refine r_iinc (pc := 281) (lv' := [(0, .ref (kB K + 35)), (3, vI x3), (4, vI x4), (5, vI x5), (6, vI x6), (7, vI x7), (8, vI x8), (9, vI (x9 + 1)), (11, vI s0_231)]) X 7 [1, 2, 3, 4, 5, 6, 7, 0, 8] dX6_clash_281 rfl (by decide) rfl ?_
              refine r_goto (pc := 284) X dX6_clash_284 (tgt := 132) (by decide) ?_
              refine r_sub [0, 1, 2, 3, 4, 5, 6, 7] rfl ?_
              exact ih x4 (x9 + 1) m1
            · refine r_aload_n (pc := 243) X 0 dX6_clash_243 rfl rfl ?_
              refine r_get (pc := 244) (v := .ref (kB K + 49)) X 35 18 inX6 rfl rfl (by decide) tf_X6_49 rfl dX6_clash_244 ?_
              refine r_iload (pc := 247) X 8 dX6_clash_247 rfl ?_
              refine r_iconst (pc := 249) X 1 dX6_clash_249 (by decide) ?_
              refine r_iast (pc := 250) (f := m1 18) (ws' := (Zw (kE K) lt b c ms rd (bS m1 18 (aS (m1 18) s0_231 1)) P)) X 49 h28 zl_6400 rfl rfl dX6_clash_250 ?_
              refine r_aload_n (pc := 251) X 0 dX6_clash_251 rfl rfl ?_
              refine r_get (pc := 252) (v := .ref (kB K + 50)) X 35 19 inX6 rfl rfl (by decide) tf_X6_52 rfl dX6_clash_252 ?_
              refine r_iload (pc := 255) X 2 dX6_clash_255 rfl ?_
              refine r_iload (pc := 257) X 8 dX6_clash_257 rfl ?_
              refine r_ckA (fun h31 => ?_)
              refine r_iast (pc := 259) (f := m1 19) (ws' := (Zw (kE K) lt b c ms rd (bS (bS m1 18 (aS (m1 18) s0_231 1)) 19 (aS (m1 19) x4 s0_231)) P)) X 50 h31 zl_6400 rfl rfl dX6_clash_259 ?_
              refine r_aload_n (pc := 260) X 0 dX6_clash_260 rfl rfl ?_
              refine r_get (pc := 261) (v := .ref (kB K + 51)) X 35 20 inX6 rfl rfl (by decide) tf_X6_55 rfl dX6_clash_261 ?_
              refine r_iload (pc := 264) X 2 dX6_clash_264 rfl ?_
              refine r_iload (pc := 266) X 3 dX6_clash_266 rfl ?_
              refine r_iast (pc := 268) (f := m1 20) (ws' := (Zw (kE K) lt b c ms rd (bS (bS (bS m1 18 (aS (m1 18) s0_231 1)) 19 (aS (m1 19) x4 s0_231)) 20 (aS (m1 20) x4 x5)) P)) X 51 h31 zl_6400 rfl rfl dX6_clash_268 ?_
              refine r_aload_n (pc := 269) X 0 dX6_clash_269 rfl rfl ?_
              refine r_get (pc := 270) (v := .ref (kB K + 52)) X 35 21 inX6 rfl rfl (by decide) tf_X6_58 rfl dX6_clash_270 ?_
              refine r_iload (pc := 273) X 2 dX6_clash_273 rfl ?_
              refine r_iload (pc := 275) X 7 dX6_clash_275 rfl ?_
              refine r_iast (pc := 277) (f := m1 21) (ws' := (Zw (kE K) lt b c ms rd (bS (bS (bS (bS m1 18 (aS (m1 18) s0_231 1)) 19 (aS (m1 19) x4 s0_231)) 20 (aS (m1 20) x4 x5)) 21 (aS (m1 21) x4 x9)) P)) X 52 h31 zl_6400 rfl rfl dX6_clash_277 ?_
              refine r_iinc (pc := 278) (lv' := [(0, .ref (kB K + 35)), (3, vI x3), (4, vI (x4 + 1)), (5, vI x5), (6, vI x6), (7, vI x7), (8, vI x8), (9, vI x9), (11, vI s0_231)]) X 2 [1, 2, 0, 3, 4, 5, 6, 7, 8] dX6_clash_278 rfl (by decide) rfl ?_
              refine r_iinc (pc := 281) (lv' := [(0, .ref (kB K + 35)), (3, vI x3), (4, vI (x4 + 1)), (5, vI x5), (6, vI x6), (7, vI x7), (8, vI x8), (9, vI (x9 + 1)), (11, vI s0_231)]) X 7 [1, 2, 3, 4, 5, 6, 7, 0, 8] dX6_clash_281 rfl (by decide) rfl ?_
              refine r_goto (pc := 284) X dX6_clash_284 (tgt := 132) (by decide) ?_
              refine r_sub [0, 1, 2, 3, 4, 5, 6, 7] rfl ?_
              exact ih (x4 + 1) (x9 + 1) (bS (bS (bS (bS m1 18 (aS (m1 18) s0_231 1)) 19 (aS (m1 19) x4 s0_231)) 20 (aS (m1 20) x4 x5)) 21 (aS (m1 21) x4 x9))
          refine r_ck1 (fun h32 => ?_)
          refine r_ifeq (pc := 191) X h32 dX6_clash_191 (tgt := 214) (by decide) (fun h33 => ?_) (fun h33 => ?_)
          · refine r_iload_n (pc := 214) X 1 dX6_clash_214 rfl rfl ?_
            refine r_iload (pc := 215) X 4 dX6_clash_215 rfl ?_
            refine r_iload (pc := 217) X 7 dX6_clash_217 rfl ?_
            refine r_callS (pc := 219) (As := [vI x6, vI x9]) (rest := [vI x3]) (W' := fun q219_34 => (Zw (kE K) lt b c ms rd m1 P)) (rv := fun q219_34 => some (vI q219_34)) X dX6_clash_219 rfl (fun a ha => c_X6_partOf N lt b c ms rd m1 P x6 x9 K.1.2.1 K.2.2.1.1 (kE K) a ha) (fun a => Zw_d _ _ _ _ _ _ _ _) gd_X6_106 rfl (n := 2) (by decide) rfl (by decide) (by simp [z_cat, z_catR, z_catI, z_catL]) (fun q219_34 eq219_34 => ?_)
            show Rn K _ 0 0 _ 222 [(0, .ref (kB K + 35)), (3, vI x3), (4, vI x4), (5, vI x5), (6, vI x6), (7, vI x7), (8, vI x8), (9, vI x9), (10, vI s0_187)] [vI q219_34, vI x3] (Zw (kE K) lt b c ms rd m1 P)
            refine r_imul (pc := 222) X dX6_clash_222 ?_
            refine r_iload (pc := 223) X 5 dX6_clash_223 rfl ?_
            refine r_iload (pc := 225) X 7 dX6_clash_225 rfl ?_
            refine r_callS (pc := 227) (As := [vI x7, vI x9]) (rest := [vI (x3 * q219_34)]) (W' := fun q227_35 => (Zw (kE K) lt b c ms rd m1 P)) (rv := fun q227_35 => some (vI q227_35)) X dX6_clash_227 rfl (fun a ha => c_X6_partOf N lt b c ms rd m1 P x7 x9 K.1.2.1 K.2.2.1.1 (kE K) a ha) (fun a => Zw_d _ _ _ _ _ _ _ _) gd_X6_106 rfl (n := 2) (by decide) rfl (by decide) (by simp [z_cat, z_catR, z_catI, z_catL]) (fun q227_35 eq227_35 => ?_)
            show Rn K _ 0 0 _ 230 [(0, .ref (kB K + 35)), (3, vI x3), (4, vI x4), (5, vI x5), (6, vI x6), (7, vI x7), (8, vI x8), (9, vI x9), (10, vI s0_187)] [vI q227_35, vI (x3 * q219_34)] (Zw (kE K) lt b c ms rd m1 P)
            refine r_iadd (pc := 230) X dX6_clash_230 ?_
            refine r_sub [0, 1, 2, 3, 4, 5, 6, 7] rfl ?_
            exact hj231 ((x3 * q219_34) + q227_35)
          · refine r_iload_n (pc := 194) X 1 dX6_clash_194 rfl rfl ?_
            refine r_iload (pc := 195) X 5 dX6_clash_195 rfl ?_
            refine r_iload (pc := 197) X 7 dX6_clash_197 rfl ?_
            refine r_callS (pc := 199) (As := [vI x7, vI x9]) (rest := [vI x3]) (W' := fun q199_36 => (Zw (kE K) lt b c ms rd m1 P)) (rv := fun q199_36 => some (vI q199_36)) X dX6_clash_199 rfl (fun a ha => c_X6_partOf N lt b c ms rd m1 P x7 x9 K.1.2.1 K.2.2.1.1 (kE K) a ha) (fun a => Zw_d _ _ _ _ _ _ _ _) gd_X6_106 rfl (n := 2) (by decide) rfl (by decide) (by simp [z_cat, z_catR, z_catI, z_catL]) (fun q199_36 eq199_36 => ?_)
            show Rn K _ 0 0 _ 202 [(0, .ref (kB K + 35)), (3, vI x3), (4, vI x4), (5, vI x5), (6, vI x6), (7, vI x7), (8, vI x8), (9, vI x9), (10, vI s0_187)] [vI q199_36, vI x3] (Zw (kE K) lt b c ms rd m1 P)
            refine r_imul (pc := 202) X dX6_clash_202 ?_
            refine r_iload (pc := 203) X 4 dX6_clash_203 rfl ?_
            refine r_iload (pc := 205) X 7 dX6_clash_205 rfl ?_
            refine r_callS (pc := 207) (As := [vI x6, vI x9]) (rest := [vI (x3 * q199_36)]) (W' := fun q207_37 => (Zw (kE K) lt b c ms rd m1 P)) (rv := fun q207_37 => some (vI q207_37)) X dX6_clash_207 rfl (fun a ha => c_X6_partOf N lt b c ms rd m1 P x6 x9 K.1.2.1 K.2.2.1.1 (kE K) a ha) (fun a => Zw_d _ _ _ _ _ _ _ _) gd_X6_106 rfl (n := 2) (by decide) rfl (by decide) (by simp [z_cat, z_catR, z_catI, z_catL]) (fun q207_37 eq207_37 => ?_)
            show Rn K _ 0 0 _ 210 [(0, .ref (kB K + 35)), (3, vI x3), (4, vI x4), (5, vI x5), (6, vI x6), (7, vI x7), (8, vI x8), (9, vI x9), (10, vI s0_187)] [vI q207_37, vI (x3 * q199_36)] (Zw (kE K) lt b c ms rd m1 P)
            refine r_iadd (pc := 210) X dX6_clash_210 ?_
            refine r_goto (pc := 211) X dX6_clash_211 (tgt := 231) (by decide) ?_
            refine r_sub [0, 1, 2, 3, 4, 5, 6, 7] rfl ?_
            exact hj231 ((x3 * q199_36) + q207_37)
        refine r_jn (J := fun j186 => Rn K (Q_X6_clash K lt b c ms rd m P) 0 0 j186 186 [(0, .ref (kB K + 35)), (3, vI x3), (4, vI x4), (5, vI x5), (6, vI x6), (7, vI x7), (8, vI x8), (9, vI x9)] [] (Zw (kE K) lt b c ms rd m1 P)) ?_ (fun j186 hj186 => ?_)
        · skip
          refine r_iconst (pc := 186) X 0 dX6_clash_186 (by decide) ?_
          exact hj187 0
        refine r_ck1 (fun h38 => ?_)
        refine r_icmp_ne (pc := 158) X h38 (by decide) dX6_clash_158 (tgt := 186) (by decide) (fun h39 => ?_) (fun h39 => ?_)
        · exact hj186
        · refine r_iload (pc := 161) X 7 dX6_clash_161 rfl ?_
          refine r_ifne (pc := 163) X h22 dX6_clash_163 (tgt := 186) (by decide) (fun h40 => ?_) (fun h40 => ?_)
          · exact hj186
          · refine r_aload_n (pc := 166) X 0 dX6_clash_166 rfl rfl ?_
            refine r_get (pc := 167) (v := vI (m1 6 0)) X 35 6 inX6 rfl rfl (by decide) tf_X6_198 rfl dX6_clash_167 ?_
            refine r_iconst (pc := 170) X 2 dX6_clash_170 (by decide) ?_
            refine r_ck1 (fun h41 => ?_)
            refine r_icmp_eq (pc := 171) X h41 (by decide) dX6_clash_171 (tgt := 186) (by decide) (fun h42 => ?_) (fun h42 => ?_)
            · exact hj186
            · refine r_aload_n (pc := 174) X 0 dX6_clash_174 rfl rfl ?_
              refine r_get (pc := 175) (v := vI (m1 6 0)) X 35 6 inX6 rfl rfl (by decide) tf_X6_198 rfl dX6_clash_175 ?_
              refine r_iconst (pc := 178) X 4 dX6_clash_178 (by decide) ?_
              refine r_icmp_eq (pc := 179) X h41 (by decide) dX6_clash_179 (tgt := 186) (by decide) (fun h43 => ?_) (fun h43 => ?_)
              · exact hj186
              · refine r_iconst (pc := 182) X 1 dX6_clash_182 (by decide) ?_
                refine r_goto (pc := 183) X dX6_clash_183 (tgt := 187) (by decide) ?_
                exact hj187 1
set_option maxRecDepth 100000 in
set_option maxHeartbeats 4000000 in
theorem t_X6_clash_L66 (N : Nat) (lt b c ms rd m : Bd) (P : PL) (x3 : Int) (K : KT) (X : Kok K cX6_clash yX6_clash.cls lw_g ({ frames := 2, cells := 0, slots := 0, locals := 42 } : Room) (some .int) 12) (k : Bd → Option (Int × Bd)) (hk : ∀ (m1 : Bd), Rn K (Q_X6_clash K lt b c ms rd m P) 0 0 (k m1) 293 [] [] (Zw (kE K) lt b c ms rd m1 P)) : ∀ (n : Nat) (x4 : Int) (x5 : Int) (m1 : Bd), Rn K (Q_X6_clash K lt b c ms rd m P) 0 0 (f_X6_clash_L66 N x3 k n x4 x5 m1) 66 [(0, .ref (kB K + 35)), (3, vI x3), (4, vI x4), (5, vI x5)] [] (Zw (kE K) lt b c ms rd m1 P) := by
  intro n
  induction n with
  | zero =>
    intro x4 x5 m1
    rw [f_X6_clash_L66]
    exact r_none
  | succ n ih =>
    intro x4 x5 m1
    rw [f_X6_clash_L66]
    refine r_iload (pc := 66) X 3 dX6_clash_66 rfl ?_
    refine r_iload (pc := 68) X 2 dX6_clash_68 rfl ?_
    refine r_ck1 (fun h6 => ?_)
    refine r_ck1 (fun h7 => ?_)
    refine r_icmp_ge (pc := 70) X h6 h7 dX6_clash_70 (tgt := 293) (by decide) (fun h8 => ?_) (fun h8 => ?_)
    · refine r_sub [] rfl ?_
      exact hk m1
    · refine r_aload_n (pc := 73) X 0 dX6_clash_73 rfl rfl ?_
      refine r_get (pc := 74) (v := .ref (kB K + 42)) X 35 9 inX6 rfl rfl (by decide) tf_X6_28 rfl dX6_clash_74 ?_
      refine r_aload_n (pc := 77) X 0 dX6_clash_77 rfl rfl ?_
      refine r_get (pc := 78) (v := .ref (kB K + 50)) X 35 19 inX6 rfl rfl (by decide) tf_X6_52 rfl dX6_clash_78 ?_
      refine r_iload (pc := 81) X 3 dX6_clash_81 rfl ?_
      refine r_ckA (fun h9 => ?_)
      refine r_iald (pc := 83) (f := m1 19) X 50 h9 zl_6400 rfl dX6_clash_83 ?_
      refine r_iload_n (pc := 84) X 1 dX6_clash_84 rfl rfl ?_
      refine r_ck1 (fun h10 => ?_)
      refine r_ck1 (fun h11 => ?_)
      refine r_ckZ (fun h12 => ?_)
      refine r_idiv (pc := 85) X h10 h11 h12 dX6_clash_85 ?_
      refine r_ckA (fun h13 => ?_)
      refine r_iald (pc := 86) (f := m1 9) X 42 h13 zl_3400 rfl dX6_clash_86 ?_
      refine r_istore (pc := 87) (lv' := [(0, .ref (kB K + 35)), (3, vI x3), (4, vI x4), (5, vI x5), (6, vI (m1 9 (Int.tdiv (m1 19 x5) x3)))]) X [1, 2, 3, 4, 0] dX6_clash_87 (by decide) rfl ?_
      refine r_aload_n (pc := 89) X 0 dX6_clash_89 rfl rfl ?_
      refine r_get (pc := 90) (v := .ref (kB K + 42)) X 35 9 inX6 rfl rfl (by decide) tf_X6_28 rfl dX6_clash_90 ?_
      refine r_aload_n (pc := 93) X 0 dX6_clash_93 rfl rfl ?_
      refine r_get (pc := 94) (v := .ref (kB K + 50)) X 35 19 inX6 rfl rfl (by decide) tf_X6_52 rfl dX6_clash_94 ?_
      refine r_iload (pc := 97) X 3 dX6_clash_97 rfl ?_
      refine r_iald (pc := 99) (f := m1 19) X 50 h9 zl_6400 rfl dX6_clash_99 ?_
      refine r_iload_n (pc := 100) X 1 dX6_clash_100 rfl rfl ?_
      refine r_irem (pc := 101) X h10 h11 h12 dX6_clash_101 ?_
      refine r_ckA (fun h14 => ?_)
      refine r_iald (pc := 102) (f := m1 9) X 42 h14 zl_3400 rfl dX6_clash_102 ?_
      refine r_istore (pc := 103) (lv' := [(0, .ref (kB K + 35)), (3, vI x3), (4, vI x4), (5, vI x5), (6, vI (m1 9 (Int.tdiv (m1 19 x5) x3))), (7, vI (m1 9 (Int.tmod (m1 19 x5) x3)))]) X [1, 2, 3, 4, 5, 0] dX6_clash_103 (by decide) rfl ?_
      refine r_aload_n (pc := 105) X 0 dX6_clash_105 rfl rfl ?_
      refine r_iload (pc := 106) X 4 dX6_clash_106 rfl ?_
      refine r_callS (pc := 108) (As := [vI (m1 9 (Int.tdiv (m1 19 x5) x3))]) (rest := [.ref (kB K + 35)]) (W' := fun q108_15 => (Zw (kE K) lt b c ms rd m1 P)) (rv := fun q108_15 => some (vI q108_15)) X dX6_clash_108 rfl (fun a ha => c_X6_headOf N lt b c ms rd m1 P (m1 9 (Int.tdiv (m1 19 x5) x3)) K.1.2.1 K.2.2.1.1 (kE K) a ha) (fun a => Zw_d _ _ _ _ _ _ _ _) gd_X6_102 rfl (n := 1) (by decide) rfl (by decide) (by simp [z_cat, z_catR, z_catI, z_catL]) (fun q108_15 eq108_15 => ?_)
      show Rn K _ 0 0 _ 111 [(0, .ref (kB K + 35)), (3, vI x3), (4, vI x4), (5, vI x5), (6, vI (m1 9 (Int.tdiv (m1 19 x5) x3))), (7, vI (m1 9 (Int.tmod (m1 19 x5) x3)))] [vI q108_15, .ref (kB K + 35)] (Zw (kE K) lt b c ms rd m1 P)
      refine r_iload (pc := 111) X 5 dX6_clash_111 rfl ?_
      refine r_callS (pc := 113) (As := [vI (m1 9 (Int.tmod (m1 19 x5) x3))]) (rest := [vI q108_15, .ref (kB K + 35)]) (W' := fun q113_16 => (Zw (kE K) lt b c ms rd m1 P)) (rv := fun q113_16 => some (vI q113_16)) X dX6_clash_113 rfl (fun a ha => c_X6_headOf N lt b c ms rd m1 P (m1 9 (Int.tmod (m1 19 x5) x3)) K.1.2.1 K.2.2.1.1 (kE K) a ha) (fun a => Zw_d _ _ _ _ _ _ _ _) gd_X6_102 rfl (n := 1) (by decide) rfl (by decide) (by simp [z_cat, z_catR, z_catI, z_catL]) (fun q113_16 eq113_16 => ?_)
      show Rn K _ 0 0 _ 116 [(0, .ref (kB K + 35)), (3, vI x3), (4, vI x4), (5, vI x5), (6, vI (m1 9 (Int.tdiv (m1 19 x5) x3))), (7, vI (m1 9 (Int.tmod (m1 19 x5) x3)))] [vI q113_16, vI q108_15, .ref (kB K + 35)] (Zw (kE K) lt b c ms rd m1 P)
      refine r_callV (pc := 116) (q0 := 35) (ci := 6) (As := [vI q108_15, vI q113_16]) (rest := []) (W' := fun q116_17 => (Zw (kE K) lt b c ms rd m1 P)) (rv := fun q116_17 => some (vI q116_17)) X dX6_clash_116 rfl (fun a ha => c_X6_goes N lt b c ms rd m1 P q108_15 q113_16 K.1.2.1 K.2.2.1.1 (kE K) a ha) (fun a => Zw_d _ _ _ _ _ _ _ _) gd_X6_201 rfl (n := 2) (by decide) rfl (by decide) rfl rfl rfl (Nat.zero_le _) (fun q116_17 eq116_17 => ?_)
      show Rn K _ 0 0 _ 119 [(0, .ref (kB K + 35)), (3, vI x3), (4, vI x4), (5, vI x5), (6, vI (m1 9 (Int.tdiv (m1 19 x5) x3))), (7, vI (m1 9 (Int.tmod (m1 19 x5) x3)))] [vI q116_17] (Zw (kE K) lt b c ms rd m1 P)
      refine r_istore (pc := 119) (lv' := [(0, .ref (kB K + 35)), (3, vI x3), (4, vI x4), (5, vI x5), (6, vI (m1 9 (Int.tdiv (m1 19 x5) x3))), (7, vI (m1 9 (Int.tmod (m1 19 x5) x3))), (8, vI q116_17)]) X [1, 2, 3, 4, 5, 6, 0] dX6_clash_119 (by decide) rfl ?_
      refine r_iload (pc := 121) X 6 dX6_clash_121 rfl ?_
      refine r_ck1 (fun h18 => ?_)
      refine r_ifne (pc := 123) X h18 dX6_clash_123 (tgt := 129) (by decide) (fun h19 => ?_) (fun h19 => ?_)
      · refine r_iconst (pc := 129) X 0 dX6_clash_129 (by decide) ?_
        refine r_istore (pc := 130) (lv' := [(0, .ref (kB K + 35)), (3, vI x3), (4, vI x4), (5, vI x5), (6, vI (m1 9 (Int.tdiv (m1 19 x5) x3))), (7, vI (m1 9 (Int.tmod (m1 19 x5) x3))), (8, vI q116_17), (9, vI 0)]) X [1, 2, 3, 4, 5, 6, 7, 0] dX6_clash_130 (by decide) rfl ?_
        refine t_X6_clash_L132 N lt b c ms rd m P  x3 x5 (m1 9 (Int.tdiv (m1 19 x5) x3)) (m1 9 (Int.tmod (m1 19 x5) x3)) q116_17 K X _ ?_ N x4 0 m1
        intro x4_132 m_132
        refine r_iinc (pc := 287) (lv' := [(0, .ref (kB K + 35)), (3, vI x3), (4, vI x4_132), (5, vI (x5 + 1))]) X 3 [1, 2, 3, 0] dX6_clash_287 rfl (by decide) rfl ?_
        refine r_goto (pc := 290) X dX6_clash_290 (tgt := 66) (by decide) ?_
        exact ih x4_132 (x5 + 1) m_132
      · refine r_iload (pc := 126) X 3 dX6_clash_126 rfl ?_
        exact r_iret (pc := 128) X rfl rfl (by decide) dX6_clash_128
set_option maxRecDepth 100000 in
set_option maxHeartbeats 4000000 in
theorem t_X6_clash (N : Nat) (lt b c ms rd m : Bd) (P : PL) (x1 x2 : Int) (K : KT) (X : Kok K cX6_clash yX6_clash.cls lw_g ({ frames := 2, cells := 0, slots := 0, locals := 42 } : Room) (some .int) 12) : Rn K (Q_X6_clash K lt b c ms rd m P) 0 0 (f_X6_clash N m x1 x2) 0 [(0, .ref (kB K + 35)), (1, vI x1), (2, vI x2)] [] (Zw (kE K) lt b c ms rd m P) := by
  unfold f_X6_clash
  refine r_aload_n (pc := 0) X 0 dX6_clash_0 rfl rfl ?_
  refine r_get (pc := 1) (v := vI (m 10 0)) X 35 10 inX6 rfl rfl (by decide) tf_X6_94 rfl dX6_clash_1 ?_
  refine r_istore_n (pc := 4) (lv' := [(0, .ref (kB K + 35)), (1, vI x1), (2, vI x2), (3, vI (m 10 0))]) X [1, 2, 3, 0] dX6_clash_4 rfl (by decide) rfl ?_
  refine r_iconst (pc := 5) X 0 dX6_clash_5 (by decide) ?_
  refine r_istore (pc := 6) (lv' := [(0, .ref (kB K + 35)), (1, vI x1), (2, vI x2), (3, vI (m 10 0)), (4, vI 0)]) X [1, 2, 3, 4, 0] dX6_clash_6 (by decide) rfl ?_
  refine t_X6_clash_L8 N lt b c ms rd m P  x1 x2 (m 10 0) K X _ ?_ N 0 m
  intro m_8
  refine r_aload_n (pc := 30) X 0 dX6_clash_30 rfl rfl ?_
  refine r_get (pc := 31) (v := .ref (kB K + 50)) X 35 19 inX6 rfl rfl (by decide) tf_X6_52 rfl dX6_clash_31 ?_
  refine r_iconst (pc := 34) X 0 dX6_clash_34 (by decide) ?_
  refine r_iload_n (pc := 35) X 3 dX6_clash_35 rfl rfl ?_
  refine r_iload_n (pc := 36) X 1 dX6_clash_36 rfl rfl ?_
  refine r_imul (pc := 37) X dX6_clash_37 ?_
  refine r_iload_n (pc := 38) X 2 dX6_clash_38 rfl rfl ?_
  refine r_iadd (pc := 39) X dX6_clash_39 ?_
  refine r_iast (pc := 40) (f := m_8 19) (ws' := (Zw (kE K) lt b c ms rd (bS m_8 19 (aS (m_8 19) 0 (((m 10 0) * x1) + x2))) P)) X 50 (by decide) zl_6400 rfl rfl dX6_clash_40 ?_
  refine r_aload_n (pc := 41) X 0 dX6_clash_41 rfl rfl ?_
  refine r_get (pc := 42) (v := .ref (kB K + 49)) X 35 18 inX6 rfl rfl (by decide) tf_X6_49 rfl dX6_clash_42 ?_
  refine r_aload_n (pc := 45) X 0 dX6_clash_45 rfl rfl ?_
  refine r_get (pc := 46) (v := .ref (kB K + 50)) X 35 19 inX6 rfl rfl (by decide) tf_X6_52 rfl dX6_clash_46 ?_
  refine r_iconst (pc := 49) X 0 dX6_clash_49 (by decide) ?_
  refine r_iald (pc := 50) (f := aS (m_8 19) 0 (((m 10 0) * x1) + x2)) X 50 (by decide) zl_6400 rfl dX6_clash_50 ?_
  refine r_iconst (pc := 51) X 1 dX6_clash_51 (by decide) ?_
  refine r_ckA (fun h5 => ?_)
  refine r_iast (pc := 52) (f := m_8 18) (ws' := (Zw (kE K) lt b c ms rd (bS (bS m_8 18 (aS (m_8 18) ((aS (m_8 19) 0 (((m 10 0) * x1) + x2)) 0) 1)) 19 (aS (m_8 19) 0 (((m 10 0) * x1) + x2))) P)) X 49 h5 zl_6400 rfl rfl dX6_clash_52 ?_
  refine r_aload_n (pc := 53) X 0 dX6_clash_53 rfl rfl ?_
  refine r_get (pc := 54) (v := .ref (kB K + 51)) X 35 20 inX6 rfl rfl (by decide) tf_X6_55 rfl dX6_clash_54 ?_
  refine r_iconst (pc := 57) X 0 dX6_clash_57 (by decide) ?_
  refine r_iconst (pc := 58) X (-1) dX6_clash_58 (by decide) ?_
  refine r_iast (pc := 59) (f := m_8 20) (ws' := (Zw (kE K) lt b c ms rd (bS (bS (bS m_8 18 (aS (m_8 18) ((aS (m_8 19) 0 (((m 10 0) * x1) + x2)) 0) 1)) 19 (aS (m_8 19) 0 (((m 10 0) * x1) + x2))) 20 (aS (m_8 20) 0 (-1))) P)) X 51 (by decide) zl_6400 rfl rfl dX6_clash_59 ?_
  refine r_iconst (pc := 60) X 1 dX6_clash_60 (by decide) ?_
  refine r_istore (pc := 61) (lv' := [(0, .ref (kB K + 35)), (1, vI x1), (2, vI x2), (3, vI (m 10 0)), (4, vI 1)]) X [1, 2, 3, 4, 0] dX6_clash_61 (by decide) rfl ?_
  refine r_iconst (pc := 63) X 0 dX6_clash_63 (by decide) ?_
  refine r_istore (pc := 64) (lv' := [(0, .ref (kB K + 35)), (1, vI x1), (2, vI x2), (3, vI (m 10 0)), (4, vI 1), (5, vI 0)]) X [1, 2, 3, 4, 5, 0] dX6_clash_64 (by decide) rfl ?_
  refine r_sub [0, 3, 4, 5] rfl ?_
  refine t_X6_clash_L66 N lt b c ms rd m P  (m 10 0) K X _ ?_ N 1 0 (bS (bS (bS m_8 18 (aS (m_8 18) ((aS (m_8 19) 0 (((m 10 0) * x1) + x2)) 0) 1)) 19 (aS (m_8 19) 0 (((m 10 0) * x1) + x2))) 20 (aS (m_8 20) 0 (-1)))
  intro m_66
  refine r_iconst (pc := 293) X (-1) dX6_clash_293 (by decide) ?_
  exact r_iret (pc := 294) X rfl rfl (by decide) dX6_clash_294
theorem c_X6_clash (N : Nat) (lt b c ms rd m : Bd) (P : PL) (x1 x2 : Int) (l : Launch) (D : va_G) (E : ET) (a : Int × Bd) (ha : f_X6_clash N m x1 x2 = some a) : Ct l yX6_clash (Cond.code yX6_clash cX6_clash 12 (some .int) :: lw_g) ({ frames := 2, cells := 0, slots := 0, locals := 42 } : Room) D E [.ref (E.2.2.2 + 35), vI x1, vI x2] (Zw E lt b c ms rd m P) (Zw E lt b c ms rd a.2 P) (some (vI a.1)) :=
  ct_of (av := fun E => [.ref (E.2.2.2 + 35), vI x1, vI x2]) (W0 := fun E => Zw E lt b c ms rd m P) (W1 := fun E (a : Int × Bd) => Zw E lt b c ms rd a.2 P) (rw := fun E a => some (vI a.1)) (by decide) rfl (fun E => Zw_d E lt b c ms rd m P) (fun E => by simp [lg_sl, z_cat, z_catR, z_catI, z_catL]) (fun K X => r_lv (by simp [lv_args, z_cat, z_catR, z_catI, z_catL]) (t_X6_clash N lt b c ms rd m P x1 x2 K X)) l D E a ha
abbrev Q_X6_under (K : KT) (lt b c ms rd m : Bd) (P : PL) : (Int × Bd) → State → Prop := Qm K ({ frames := 4, cells := 0, slots := 0, locals := 91 } : Room) (fun a : Int × Bd => Zw (kE K) lt b c ms rd a.2 P) (fun a => some (vI a.1))
set_option maxRecDepth 100000 in
set_option maxHeartbeats 4000000 in
theorem t_X6_under (N : Nat) (lt b c ms rd m : Bd) (P : PL) (x1 x2 : Int) (K : KT) (X : Kok K cX6_under yX6_under.cls lw_g ({ frames := 4, cells := 0, slots := 0, locals := 91 } : Room) (some .int) 4) : Rn K (Q_X6_under K lt b c ms rd m P) 0 0 (f_X6_under N m x1 x2) 0 [(0, .ref (kB K + 35)), (1, vI x1), (2, vI x2)] [] (Zw (kE K) lt b c ms rd m P) := by
  unfold f_X6_under
  refine r_aload_n (pc := 0) X 0 dX6_under_0 rfl rfl ?_
  refine r_iload_n (pc := 1) X 1 dX6_under_1 rfl rfl ?_
  refine r_callV (pc := 2) (q0 := 35) (ci := 6) (As := [vI x1]) (rest := []) (W' := fun q2_1 => (Zw (kE K) lt b c ms rd m P)) (rv := fun q2_1 => some (vI q2_1)) X dX6_under_2 rfl (fun a ha => c_X6_has N lt b c ms rd m P x1 K.1.2.1 K.2.2.1.1 (kE K) a ha) (fun a => Zw_d _ _ _ _ _ _ _ _) gd_X6_204 rfl (n := 1) (by decide) rfl (by decide) rfl rfl rfl (Nat.zero_le _) (fun q2_1 eq2_1 => ?_)
  show Rn K _ 0 0 _ 5 [(0, .ref (kB K + 35)), (1, vI x1), (2, vI x2)] [vI q2_1] (Zw (kE K) lt b c ms rd m P)
  refine r_jn (J := fun j16 => Rn K (Q_X6_under K lt b c ms rd m P) 0 0 j16 16 [(0, .ref (kB K + 35))] [] (Zw (kE K) lt b c ms rd m P)) ?_ (fun j16 hj16 => ?_)
  · skip
    refine r_aload_n (pc := 16) X 0 dX6_under_16 rfl rfl ?_
    refine r_bipush (pc := 17) X (-2) dX6_under_17 (by decide) ?_
    refine r_callV (pc := 19) (q0 := 35) (ci := 6) (As := [vI (-2)]) (rest := []) (W' := fun q19_2 => (Zw (kE K) lt b c ms rd q19_2.2 P)) (rv := fun q19_2 => some (vI q19_2.1)) X dX6_under_19 rfl (fun a ha => c_X6_refuses N lt b c ms rd m P (-2) K.1.2.1 K.2.2.1.1 (kE K) a ha) (fun a => Zw_d _ _ _ _ _ _ _ _) gd_X6_138 rfl (n := 1) (by decide) rfl (by decide) rfl rfl rfl (Nat.zero_le _) (fun q19_2 eq19_2 => ?_)
    show Rn K _ 0 0 _ 22 [(0, .ref (kB K + 35))] [vI q19_2.1] (Zw (kE K) lt b c ms rd q19_2.2 P)
    exact r_iret (pc := 22) X rfl rfl (by decide) dX6_under_22
  refine r_ck1 (fun h3 => ?_)
  refine r_ifeq (pc := 5) X h3 dX6_under_5 (tgt := 16) (by decide) (fun h4 => ?_) (fun h4 => ?_)
  · refine r_sub [0] rfl ?_
    exact hj16
  · refine r_aload_n (pc := 8) X 0 dX6_under_8 rfl rfl ?_
    refine r_iload_n (pc := 9) X 2 dX6_under_9 rfl rfl ?_
    refine r_callV (pc := 10) (q0 := 35) (ci := 6) (As := [vI x2]) (rest := []) (W' := fun q10_5 => (Zw (kE K) lt b c ms rd m P)) (rv := fun q10_5 => some (vI q10_5)) X dX6_under_10 rfl (fun a ha => c_X6_has N lt b c ms rd m P x2 K.1.2.1 K.2.2.1.1 (kE K) a ha) (fun a => Zw_d _ _ _ _ _ _ _ _) gd_X6_204 rfl (n := 1) (by decide) rfl (by decide) rfl rfl rfl (Nat.zero_le _) (fun q10_5 eq10_5 => ?_)
    show Rn K _ 0 0 _ 13 [(0, .ref (kB K + 35)), (1, vI x1), (2, vI x2)] [vI q10_5] (Zw (kE K) lt b c ms rd m P)
    refine r_ck1 (fun h6 => ?_)
    refine r_ifne (pc := 13) X h6 dX6_under_13 (tgt := 23) (by decide) (fun h7 => ?_) (fun h7 => ?_)
    · refine r_aload_n (pc := 23) X 0 dX6_under_23 rfl rfl ?_
      refine r_iload_n (pc := 24) X 1 dX6_under_24 rfl rfl ?_
      refine r_iload_n (pc := 25) X 2 dX6_under_25 rfl rfl ?_
      refine r_callV (pc := 26) (q0 := 35) (ci := 6) (As := [vI x1, vI x2]) (rest := []) (W' := fun q26_8 => (Zw (kE K) lt b c ms rd q26_8.2 P)) (rv := fun q26_8 => some (vI q26_8.1)) X dX6_under_26 rfl (fun a ha => c_X6_both N lt b c ms rd m P x1 x2 K.1.2.1 K.2.2.1.1 (kE K) a ha) (fun a => Zw_d _ _ _ _ _ _ _ _) gd_X6_207 rfl (n := 2) (by decide) rfl (by decide) rfl rfl rfl (Nat.zero_le _) (fun q26_8 eq26_8 => ?_)
      show Rn K _ 0 0 _ 29 [(0, .ref (kB K + 35)), (1, vI x1), (2, vI x2)] [vI q26_8.1] (Zw (kE K) lt b c ms rd q26_8.2 P)
      refine r_istore_n (pc := 29) (lv' := [(0, .ref (kB K + 35)), (1, vI x1), (2, vI x2), (3, vI q26_8.1)]) X [1, 2, 3, 0] dX6_under_29 rfl (by decide) rfl ?_
      refine r_aload_n (pc := 30) X 0 dX6_under_30 rfl rfl ?_
      refine r_iconst (pc := 31) X 0 dX6_under_31 (by decide) ?_
      refine r_iload_n (pc := 32) X 3 dX6_under_32 rfl rfl ?_
      refine r_callV (pc := 33) (q0 := 35) (ci := 6) (As := [vI 0, vI q26_8.1]) (rest := []) (W' := fun q33_9 => (Zw (kE K) lt b c ms rd q33_9.2 P)) (rv := fun q33_9 => some (vI q33_9.1)) X dX6_under_33 rfl (fun a ha => c_X6_clash N lt b c ms rd q26_8.2 P 0 q26_8.1 K.1.2.1 K.2.2.1.1 (kE K) a ha) (fun a => Zw_d _ _ _ _ _ _ _ _) gd_X6_210 rfl (n := 2) (by decide) rfl (by decide) rfl rfl rfl (Nat.zero_le _) (fun q33_9 eq33_9 => ?_)
      show Rn K _ 0 0 _ 36 [(0, .ref (kB K + 35)), (1, vI x1), (2, vI x2), (3, vI q26_8.1)] [vI q33_9.1] (Zw (kE K) lt b c ms rd q33_9.2 P)
      refine r_iconst (pc := 36) X (-1) dX6_under_36 (by decide) ?_
      refine r_ck1 (fun h10 => ?_)
      refine r_jn (J := fun j45 => ∀ (s_45 : Int), Rn K (Q_X6_under K lt b c ms rd m P) 0 0 (j45 s_45) 45 [(0, .ref (kB K + 35)), (1, vI x1), (2, vI x2), (3, vI q26_8.1)] [vI s_45] (Zw (kE K) lt b c ms rd q33_9.2 P)) ?_ (fun j45 hj45 => ?_)
      · intro s_45
        exact r_iret (pc := 45) X rfl rfl (by decide) dX6_under_45
      refine r_eq (z_ite j45) ?_
      refine r_icmp_ne (pc := 37) X h10 (by decide) dX6_under_37 (tgt := 44) (by decide) (fun h11 => ?_) (fun h11 => ?_)
      · refine r_iconst (pc := 44) X 0 dX6_under_44 (by decide) ?_
        exact hj45 0
      · refine r_iconst (pc := 40) X 1 dX6_under_40 (by decide) ?_
        refine r_goto (pc := 41) X dX6_under_41 (tgt := 45) (by decide) ?_
        exact hj45 1
    · refine r_sub [0] rfl ?_
      exact hj16
theorem c_X6_under (N : Nat) (lt b c ms rd m : Bd) (P : PL) (x1 x2 : Int) (l : Launch) (D : va_G) (E : ET) (a : Int × Bd) (ha : f_X6_under N m x1 x2 = some a) : Ct l yX6_under (Cond.code yX6_under cX6_under 4 (some .int) :: lw_g) ({ frames := 4, cells := 0, slots := 0, locals := 91 } : Room) D E [.ref (E.2.2.2 + 35), vI x1, vI x2] (Zw E lt b c ms rd m P) (Zw E lt b c ms rd a.2 P) (some (vI a.1)) :=
  ct_of (av := fun E => [.ref (E.2.2.2 + 35), vI x1, vI x2]) (W0 := fun E => Zw E lt b c ms rd m P) (W1 := fun E (a : Int × Bd) => Zw E lt b c ms rd a.2 P) (rw := fun E a => some (vI a.1)) (by decide) rfl (fun E => Zw_d E lt b c ms rd m P) (fun E => by simp [lg_sl, z_cat, z_catR, z_catI, z_catL]) (fun K X => r_lv (by simp [lv_args, z_cat, z_catR, z_catI, z_catL]) (t_X6_under N lt b c ms rd m P x1 x2 K X)) l D E a ha
abbrev Q_X6_alike (K : KT) (lt b c ms rd m : Bd) (P : PL) : (Int × Bd) → State → Prop := Qm K ({ frames := 3, cells := 0, slots := 0, locals := 63 } : Room) (fun a : Int × Bd => Zw (kE K) lt b c ms rd a.2 P) (fun a => some (vI a.1))
set_option maxRecDepth 100000 in
set_option maxHeartbeats 4000000 in
theorem t_X6_alike_L47 (N : Nat) (lt b c ms rd m : Bd) (P : PL) (m1 : Bd) (x1 x2 : Int) (K : KT) (X : Kok K cX6_alike yX6_alike.cls lw_g ({ frames := 3, cells := 0, slots := 0, locals := 63 } : Room) (some .int) 5) (k : Int → Option (Int × Bd)) (hk : ∀ (x3 : Int), Rn K (Q_X6_alike K lt b c ms rd m P) 0 0 (k x3) 101 [(3, vI x3)] [] (Zw (kE K) lt b c ms rd m1 P)) : ∀ (n : Nat) (x3 : Int) (x4 : Int), Rn K (Q_X6_alike K lt b c ms rd m P) 0 0 (f_X6_alike_L47 m1 x1 x2 k n x3 x4) 47 [(0, .ref (kB K + 35)), (1, vI x1), (2, vI x2), (3, vI x3), (4, vI x4)] [] (Zw (kE K) lt b c ms rd m1 P) := by
  intro n
  induction n with
  | zero =>
    intro x3 x4
    rw [f_X6_alike_L47]
    exact r_none
  | succ n ih =>
    intro x3 x4
    rw [f_X6_alike_L47]
    refine r_iload (pc := 47) X 4 dX6_alike_47 rfl ?_
    refine r_aload_n (pc := 49) X 0 dX6_alike_49 rfl rfl ?_
    refine r_get (pc := 50) (v := .ref (kB K + 36)) X 35 0 inX6 rfl rfl (by decide) tf_X6_7 rfl dX6_alike_50 ?_
    refine r_iload_n (pc := 53) X 1 dX6_alike_53 rfl rfl ?_
    refine r_ckA (fun h10 => ?_)
    refine r_iald (pc := 54) (f := m1 0) X 36 h10 zl_8 rfl dX6_alike_54 ?_
    refine r_ck1 (fun h11 => ?_)
    refine r_ck1 (fun h12 => ?_)
    refine r_icmp_ge (pc := 55) X h11 h12 dX6_alike_55 (tgt := 101) (by decide) (fun h13 => ?_) (fun h13 => ?_)
    · refine r_sub [3] rfl ?_
      exact hk x3
    · refine r_iload_n (pc := 58) X 3 dX6_alike_58 rfl rfl ?_
      refine r_ck1 (fun h14 => ?_)
      refine r_ifeq (pc := 59) X h14 dX6_alike_59 (tgt := 101) (by decide) (fun h15 => ?_) (fun h15 => ?_)
      · refine r_sub [3] rfl ?_
        exact hk x3
      · refine r_aload_n (pc := 62) X 0 dX6_alike_62 rfl rfl ?_
        refine r_get (pc := 63) (v := .ref (kB K + 37)) X 35 1 inX6 rfl rfl (by decide) tf_X6_13 rfl dX6_alike_63 ?_
        refine r_bipush (pc := 66) X 40 dX6_alike_66 (by decide) ?_
        refine r_iload_n (pc := 68) X 1 dX6_alike_68 rfl rfl ?_
        refine r_imul (pc := 69) X dX6_alike_69 ?_
        refine r_iload (pc := 70) X 4 dX6_alike_70 rfl ?_
        refine r_iadd (pc := 72) X dX6_alike_72 ?_
        refine r_ckA (fun h16 => ?_)
        refine r_iald (pc := 73) (f := m1 1) X 37 h16 zl_320 rfl dX6_alike_73 ?_
        refine r_aload_n (pc := 74) X 0 dX6_alike_74 rfl rfl ?_
        refine r_get (pc := 75) (v := .ref (kB K + 37)) X 35 1 inX6 rfl rfl (by decide) tf_X6_13 rfl dX6_alike_75 ?_
        refine r_bipush (pc := 78) X 40 dX6_alike_78 (by decide) ?_
        refine r_iload_n (pc := 80) X 2 dX6_alike_80 rfl rfl ?_
        refine r_imul (pc := 81) X dX6_alike_81 ?_
        refine r_iload (pc := 82) X 4 dX6_alike_82 rfl ?_
        refine r_iadd (pc := 84) X dX6_alike_84 ?_
        refine r_ckA (fun h17 => ?_)
        refine r_iald (pc := 85) (f := m1 1) X 37 h17 zl_320 rfl dX6_alike_85 ?_
        refine r_ck1 (fun h18 => ?_)
        refine r_ck1 (fun h19 => ?_)
        refine r_jn (J := fun j94 => ∀ (s_94 : Int), Rn K (Q_X6_alike K lt b c ms rd m P) 0 0 (j94 s_94) 94 [(0, .ref (kB K + 35)), (1, vI x1), (2, vI x2), (3, vI x3), (4, vI x4)] [vI s_94] (Zw (kE K) lt b c ms rd m1 P)) ?_ (fun j94 hj94 => ?_)
        · intro s_94
          refine r_istore_n (pc := 94) (lv' := [(0, .ref (kB K + 35)), (1, vI x1), (2, vI x2), (3, vI s_94), (4, vI x4)]) X [1, 2, 3, 0, 4] dX6_alike_94 rfl (by decide) rfl ?_
          refine r_iinc (pc := 95) (lv' := [(0, .ref (kB K + 35)), (1, vI x1), (2, vI x2), (3, vI s_94), (4, vI (x4 + 1))]) X 4 [1, 2, 3, 4, 0] dX6_alike_95 rfl (by decide) rfl ?_
          refine r_goto (pc := 98) X dX6_alike_98 (tgt := 47) (by decide) ?_
          exact ih s_94 (x4 + 1)
        refine r_eq (z_ite j94) ?_
        refine r_icmp_ne (pc := 86) X h18 h19 dX6_alike_86 (tgt := 93) (by decide) (fun h20 => ?_) (fun h20 => ?_)
        · refine r_iconst (pc := 93) X 0 dX6_alike_93 (by decide) ?_
          exact hj94 0
        · refine r_iconst (pc := 89) X 1 dX6_alike_89 (by decide) ?_
          refine r_goto (pc := 90) X dX6_alike_90 (tgt := 94) (by decide) ?_
          exact hj94 1
set_option maxRecDepth 100000 in
set_option maxHeartbeats 4000000 in
theorem t_X6_alike (N : Nat) (lt b c ms rd m : Bd) (P : PL) (x1 x2 : Int) (K : KT) (X : Kok K cX6_alike yX6_alike.cls lw_g ({ frames := 3, cells := 0, slots := 0, locals := 63 } : Room) (some .int) 5) : Rn K (Q_X6_alike K lt b c ms rd m P) 0 0 (f_X6_alike N m x1 x2) 0 [(0, .ref (kB K + 35)), (1, vI x1), (2, vI x2)] [] (Zw (kE K) lt b c ms rd m P) := by
  unfold f_X6_alike
  refine r_aload_n (pc := 0) X 0 dX6_alike_0 rfl rfl ?_
  refine r_iload_n (pc := 1) X 1 dX6_alike_1 rfl rfl ?_
  refine r_callV (pc := 2) (q0 := 35) (ci := 6) (As := [vI x1]) (rest := []) (W' := fun q2_1 => (Zw (kE K) lt b c ms rd m P)) (rv := fun q2_1 => some (vI q2_1)) X dX6_alike_2 rfl (fun a ha => c_X6_has N lt b c ms rd m P x1 K.1.2.1 K.2.2.1.1 (kE K) a ha) (fun a => Zw_d _ _ _ _ _ _ _ _) gd_X6_204 rfl (n := 1) (by decide) rfl (by decide) rfl rfl rfl (Nat.zero_le _) (fun q2_1 eq2_1 => ?_)
  show Rn K _ 0 0 _ 5 [(0, .ref (kB K + 35)), (1, vI x1), (2, vI x2)] [vI q2_1] (Zw (kE K) lt b c ms rd m P)
  refine r_jn (J := fun j16 => Rn K (Q_X6_alike K lt b c ms rd m P) 0 0 j16 16 [(0, .ref (kB K + 35))] [] (Zw (kE K) lt b c ms rd m P)) ?_ (fun j16 hj16 => ?_)
  · skip
    refine r_aload_n (pc := 16) X 0 dX6_alike_16 rfl rfl ?_
    refine r_bipush (pc := 17) X (-2) dX6_alike_17 (by decide) ?_
    refine r_callV (pc := 19) (q0 := 35) (ci := 6) (As := [vI (-2)]) (rest := []) (W' := fun q19_2 => (Zw (kE K) lt b c ms rd q19_2.2 P)) (rv := fun q19_2 => some (vI q19_2.1)) X dX6_alike_19 rfl (fun a ha => c_X6_refuses N lt b c ms rd m P (-2) K.1.2.1 K.2.2.1.1 (kE K) a ha) (fun a => Zw_d _ _ _ _ _ _ _ _) gd_X6_138 rfl (n := 1) (by decide) rfl (by decide) rfl rfl rfl (Nat.zero_le _) (fun q19_2 eq19_2 => ?_)
    show Rn K _ 0 0 _ 22 [(0, .ref (kB K + 35))] [vI q19_2.1] (Zw (kE K) lt b c ms rd q19_2.2 P)
    exact r_iret (pc := 22) X rfl rfl (by decide) dX6_alike_22
  refine r_ck1 (fun h3 => ?_)
  refine r_ifeq (pc := 5) X h3 dX6_alike_5 (tgt := 16) (by decide) (fun h4 => ?_) (fun h4 => ?_)
  · refine r_sub [0] rfl ?_
    exact hj16
  · refine r_aload_n (pc := 8) X 0 dX6_alike_8 rfl rfl ?_
    refine r_iload_n (pc := 9) X 2 dX6_alike_9 rfl rfl ?_
    refine r_callV (pc := 10) (q0 := 35) (ci := 6) (As := [vI x2]) (rest := []) (W' := fun q10_5 => (Zw (kE K) lt b c ms rd m P)) (rv := fun q10_5 => some (vI q10_5)) X dX6_alike_10 rfl (fun a ha => c_X6_has N lt b c ms rd m P x2 K.1.2.1 K.2.2.1.1 (kE K) a ha) (fun a => Zw_d _ _ _ _ _ _ _ _) gd_X6_204 rfl (n := 1) (by decide) rfl (by decide) rfl rfl rfl (Nat.zero_le _) (fun q10_5 eq10_5 => ?_)
    show Rn K _ 0 0 _ 13 [(0, .ref (kB K + 35)), (1, vI x1), (2, vI x2)] [vI q10_5] (Zw (kE K) lt b c ms rd m P)
    refine r_ck1 (fun h6 => ?_)
    refine r_ifne (pc := 13) X h6 dX6_alike_13 (tgt := 23) (by decide) (fun h7 => ?_) (fun h7 => ?_)
    · refine r_aload_n (pc := 23) X 0 dX6_alike_23 rfl rfl ?_
      refine r_get (pc := 24) (v := .ref (kB K + 36)) X 35 0 inX6 rfl rfl (by decide) tf_X6_7 rfl dX6_alike_24 ?_
      refine r_iload_n (pc := 27) X 1 dX6_alike_27 rfl rfl ?_
      refine r_ckA (fun h8 => ?_)
      refine r_iald (pc := 28) (f := m 0) X 36 h8 zl_8 rfl dX6_alike_28 ?_
      refine r_aload_n (pc := 29) X 0 dX6_alike_29 rfl rfl ?_
      refine r_get (pc := 30) (v := .ref (kB K + 36)) X 35 0 inX6 rfl rfl (by decide) tf_X6_7 rfl dX6_alike_30 ?_
      refine r_iload_n (pc := 33) X 2 dX6_alike_33 rfl rfl ?_
      refine r_ckA (fun h9 => ?_)
      refine r_iald (pc := 34) (f := m 0) X 36 h9 zl_8 rfl dX6_alike_34 ?_
      refine r_jn (J := fun j43 => ∀ (s0_43 : Int), Rn K (Q_X6_alike K lt b c ms rd m P) 0 0 (j43 s0_43) 43 [(0, .ref (kB K + 35)), (1, vI x1), (2, vI x2)] [vI s0_43] (Zw (kE K) lt b c ms rd m P)) ?_ (fun j43 hj43 => ?_)
      · intro s0_43
        refine r_istore_n (pc := 43) (lv' := [(0, .ref (kB K + 35)), (1, vI x1), (2, vI x2), (3, vI s0_43)]) X [1, 2, 3, 0] dX6_alike_43 rfl (by decide) rfl ?_
        refine r_iconst (pc := 44) X 0 dX6_alike_44 (by decide) ?_
        refine r_istore (pc := 45) (lv' := [(0, .ref (kB K + 35)), (1, vI x1), (2, vI x2), (3, vI s0_43), (4, vI 0)]) X [1, 2, 3, 4, 0] dX6_alike_45 (by decide) rfl ?_
        refine t_X6_alike_L47 N lt b c ms rd m P m x1 x2 K X _ ?_ N s0_43 0
        intro x3_47
        refine r_iload_n (pc := 101) X 0 dX6_alike_101 rfl rfl ?_
        refine r_ck1 (fun h21 => ?_)
        refine r_jn (J := fun j110 => ∀ (s_110 : Int), Rn K (Q_X6_alike K lt b c ms rd m P) 0 0 (j110 s_110) 110 [(3, vI x3_47)] [vI s_110] (Zw (kE K) lt b c ms rd m P)) ?_ (fun j110 hj110 => ?_)
        · intro s_110
          exact r_iret (pc := 110) X rfl rfl (by decide) dX6_alike_110
        refine r_eq (z_ite j110) ?_
        refine r_ifeq (pc := 102) X h21 dX6_alike_102 (tgt := 109) (by decide) (fun h22 => ?_) (fun h22 => ?_)
        · refine r_iconst (pc := 109) X 0 dX6_alike_109 (by decide) ?_
          exact hj110 0
        · refine r_iconst (pc := 105) X 1 dX6_alike_105 (by decide) ?_
          refine r_goto (pc := 106) X dX6_alike_106 (tgt := 110) (by decide) ?_
          exact hj110 1
      refine r_ck1 (fun h23 => ?_)
      refine r_ck1 (fun h24 => ?_)
      refine r_icmp_ne (pc := 35) X h23 h24 dX6_alike_35 (tgt := 42) (by decide) (fun h25 => ?_) (fun h25 => ?_)
      · refine r_iconst (pc := 42) X 0 dX6_alike_42 (by decide) ?_
        exact hj43 0
      · refine r_iconst (pc := 38) X 1 dX6_alike_38 (by decide) ?_
        refine r_goto (pc := 39) X dX6_alike_39 (tgt := 43) (by decide) ?_
        exact hj43 1
    · refine r_sub [0] rfl ?_
      exact hj16
theorem c_X6_alike (N : Nat) (lt b c ms rd m : Bd) (P : PL) (x1 x2 : Int) (l : Launch) (D : va_G) (E : ET) (a : Int × Bd) (ha : f_X6_alike N m x1 x2 = some a) : Ct l yX6_alike (Cond.code yX6_alike cX6_alike 5 (some .int) :: lw_g) ({ frames := 3, cells := 0, slots := 0, locals := 63 } : Room) D E [.ref (E.2.2.2 + 35), vI x1, vI x2] (Zw E lt b c ms rd m P) (Zw E lt b c ms rd a.2 P) (some (vI a.1)) :=
  ct_of (av := fun E => [.ref (E.2.2.2 + 35), vI x1, vI x2]) (W0 := fun E => Zw E lt b c ms rd m P) (W1 := fun E (a : Int × Bd) => Zw E lt b c ms rd a.2 P) (rw := fun E a => some (vI a.1)) (by decide) rfl (fun E => Zw_d E lt b c ms rd m P) (fun E => by simp [lg_sl, z_cat, z_catR, z_catI, z_catL]) (fun K X => r_lv (by simp [lv_args, z_cat, z_catR, z_catI, z_catL]) (t_X6_alike N lt b c ms rd m P x1 x2 K X)) l D E a ha
abbrev Q_X6_apart (K : KT) (lt b c ms rd m : Bd) (P : PL) : (Int × Bd) → State → Prop := Qm K ({ frames := 4, cells := 0, slots := 0, locals := 91 } : Room) (fun a : Int × Bd => Zw (kE K) lt b c ms rd a.2 P) (fun a => some (vI a.1))
set_option maxRecDepth 100000 in
set_option maxHeartbeats 4000000 in
theorem t_X6_apart_L68 (N : Nat) (lt b c ms rd m : Bd) (P : PL) (m1 : Bd) (x3 x5 : Int) (K : KT) (X : Kok K cX6_apart yX6_apart.cls lw_g ({ frames := 4, cells := 0, slots := 0, locals := 91 } : Room) (some .int) 9) (k : Int → Option (Int × Bd)) (hk : ∀ (x6 : Int), Rn K (Q_X6_apart K lt b c ms rd m P) 0 0 (k x6) 93 [(0, .ref (kB K + 35)), (3, vI x3), (5, vI x5), (6, vI x6)] [] (Zw (kE K) lt b c ms rd m1 P)) : ∀ (n : Nat) (x6 : Int) (x7 : Int), Rn K (Q_X6_apart K lt b c ms rd m P) 0 0 (f_X6_apart_L68 m1 x3 x5 k n x6 x7) 68 [(0, .ref (kB K + 35)), (3, vI x3), (5, vI x5), (6, vI x6), (7, vI x7)] [] (Zw (kE K) lt b c ms rd m1 P) := by
  intro n
  induction n with
  | zero =>
    intro x6 x7
    rw [f_X6_apart_L68]
    exact r_none
  | succ n ih =>
    intro x6 x7
    rw [f_X6_apart_L68]
    refine r_aload_n (pc := 68) X 0 dX6_apart_68 rfl rfl ?_
    refine r_get (pc := 69) (v := .ref (kB K + 51)) X 35 20 inX6 rfl rfl (by decide) tf_X6_55 rfl dX6_apart_69 ?_
    refine r_iload (pc := 72) X 4 dX6_apart_72 rfl ?_
    refine r_ckA (fun h14 => ?_)
    refine r_iald (pc := 74) (f := m1 20) X 51 h14 zl_6400 rfl dX6_apart_74 ?_
    refine r_ck1 (fun h15 => ?_)
    refine r_iflt (pc := 75) X h15 dX6_apart_75 (tgt := 93) (by decide) (fun h16 => ?_) (fun h16 => ?_)
    · refine r_sub [0, 1, 2, 3] rfl ?_
      exact hk x6
    · refine r_iinc (pc := 78) (lv' := [(0, .ref (kB K + 35)), (3, vI x3), (5, vI x5), (6, vI (x6 + 1)), (7, vI x7)]) X 3 [1, 2, 3, 0, 4] dX6_apart_78 rfl (by decide) rfl ?_
      refine r_aload_n (pc := 81) X 0 dX6_apart_81 rfl rfl ?_
      refine r_get (pc := 82) (v := .ref (kB K + 51)) X 35 20 inX6 rfl rfl (by decide) tf_X6_55 rfl dX6_apart_82 ?_
      refine r_iload (pc := 85) X 4 dX6_apart_85 rfl ?_
      refine r_iald (pc := 87) (f := m1 20) X 51 h14 zl_6400 rfl dX6_apart_87 ?_
      refine r_istore (pc := 88) (lv' := [(0, .ref (kB K + 35)), (3, vI x3), (5, vI x5), (6, vI (x6 + 1)), (7, vI (m1 20 x7))]) X [1, 2, 3, 4, 0] dX6_apart_88 (by decide) rfl ?_
      refine r_goto (pc := 90) X dX6_apart_90 (tgt := 68) (by decide) ?_
      exact ih (x6 + 1) (m1 20 x7)
set_option maxRecDepth 100000 in
set_option maxHeartbeats 4000000 in
theorem t_X6_apart_L120 (N : Nat) (lt b c ms rd m : Bd) (P : PL) (m1 : Bd) (x3 : Int) (K : KT) (X : Kok K cX6_apart yX6_apart.cls lw_g ({ frames := 4, cells := 0, slots := 0, locals := 91 } : Room) (some .int) 9) (k : Int → Option (Int × Bd)) (hk : ∀ (x7 : Int), Rn K (Q_X6_apart K lt b c ms rd m P) 0 0 (k x7) 141 [(0, .ref (kB K + 35)), (7, vI x7)] [] (Zw (kE K) lt b c ms rd m1 P)) : ∀ (n : Nat) (x7 : Int) (x8 : Int), Rn K (Q_X6_apart K lt b c ms rd m P) 0 0 (f_X6_apart_L120 m1 x3 k n x7 x8) 120 [(0, .ref (kB K + 35)), (3, vI x3), (7, vI x7), (8, vI x8)] [] (Zw (kE K) lt b c ms rd m1 P) := by
  intro n
  induction n with
  | zero =>
    intro x7 x8
    rw [f_X6_apart_L120]
    exact r_none
  | succ n ih =>
    intro x7 x8
    rw [f_X6_apart_L120]
    refine r_iload (pc := 120) X 3 dX6_apart_120 rfl ?_
    refine r_iload_n (pc := 122) X 1 dX6_apart_122 rfl rfl ?_
    refine r_ck1 (fun h20 => ?_)
    refine r_ck1 (fun h21 => ?_)
    refine r_icmp_le (pc := 123) X h20 h21 dX6_apart_123 (tgt := 141) (by decide) (fun h22 => ?_) (fun h22 => ?_)
    · refine r_sub [0, 2] rfl ?_
      exact hk x7
    · refine r_aload_n (pc := 126) X 0 dX6_apart_126 rfl rfl ?_
      refine r_get (pc := 127) (v := .ref (kB K + 51)) X 35 20 inX6 rfl rfl (by decide) tf_X6_55 rfl dX6_apart_127 ?_
      refine r_iload (pc := 130) X 2 dX6_apart_130 rfl ?_
      refine r_ckA (fun h23 => ?_)
      refine r_iald (pc := 132) (f := m1 20) X 51 h23 zl_6400 rfl dX6_apart_132 ?_
      refine r_istore (pc := 133) (lv' := [(0, .ref (kB K + 35)), (3, vI x3), (7, vI (m1 20 x7)), (8, vI x8)]) X [1, 2, 0, 3] dX6_apart_133 (by decide) rfl ?_
      refine r_iinc (pc := 135) (lv' := [(0, .ref (kB K + 35)), (3, vI x3), (7, vI (m1 20 x7)), (8, vI (x8 + (-1)))]) X 3 [1, 2, 3, 0] dX6_apart_135 rfl (by decide) rfl ?_
      refine r_goto (pc := 138) X dX6_apart_138 (tgt := 120) (by decide) ?_
      exact ih (m1 20 x7) (x8 + (-1))
set_option maxRecDepth 100000 in
set_option maxHeartbeats 4000000 in
theorem t_X6_apart (N : Nat) (lt b c ms rd m : Bd) (P : PL) (x1 x2 x3 : Int) (K : KT) (X : Kok K cX6_apart yX6_apart.cls lw_g ({ frames := 4, cells := 0, slots := 0, locals := 91 } : Room) (some .int) 9) : Rn K (Q_X6_apart K lt b c ms rd m P) 0 0 (f_X6_apart N m x1 x2 x3) 0 [(0, .ref (kB K + 35)), (1, vI x1), (2, vI x2), (3, vI x3)] [] (Zw (kE K) lt b c ms rd m P) := by
  unfold f_X6_apart
  refine r_aload_n (pc := 0) X 0 dX6_apart_0 rfl rfl ?_
  refine r_iload_n (pc := 1) X 1 dX6_apart_1 rfl rfl ?_
  refine r_callV (pc := 2) (q0 := 35) (ci := 6) (As := [vI x1]) (rest := []) (W' := fun q2_1 => (Zw (kE K) lt b c ms rd m P)) (rv := fun q2_1 => some (vI q2_1)) X dX6_apart_2 rfl (fun a ha => c_X6_has N lt b c ms rd m P x1 K.1.2.1 K.2.2.1.1 (kE K) a ha) (fun a => Zw_d _ _ _ _ _ _ _ _) gd_X6_204 rfl (n := 1) (by decide) rfl (by decide) rfl rfl rfl (Nat.zero_le _) (fun q2_1 eq2_1 => ?_)
  show Rn K _ 0 0 _ 5 [(0, .ref (kB K + 35)), (1, vI x1), (2, vI x2), (3, vI x3)] [vI q2_1] (Zw (kE K) lt b c ms rd m P)
  refine r_jn (J := fun j21 => Rn K (Q_X6_apart K lt b c ms rd m P) 0 0 j21 21 [(0, .ref (kB K + 35))] [] (Zw (kE K) lt b c ms rd m P)) ?_ (fun j21 hj21 => ?_)
  · skip
    refine r_aload_n (pc := 21) X 0 dX6_apart_21 rfl rfl ?_
    refine r_bipush (pc := 22) X (-2) dX6_apart_22 (by decide) ?_
    refine r_callV (pc := 24) (q0 := 35) (ci := 6) (As := [vI (-2)]) (rest := []) (W' := fun q24_2 => (Zw (kE K) lt b c ms rd q24_2.2 P)) (rv := fun q24_2 => some (vI q24_2.1)) X dX6_apart_24 rfl (fun a ha => c_X6_refuses N lt b c ms rd m P (-2) K.1.2.1 K.2.2.1.1 (kE K) a ha) (fun a => Zw_d _ _ _ _ _ _ _ _) gd_X6_138 rfl (n := 1) (by decide) rfl (by decide) rfl rfl rfl (Nat.zero_le _) (fun q24_2 eq24_2 => ?_)
    show Rn K _ 0 0 _ 27 [(0, .ref (kB K + 35))] [vI q24_2.1] (Zw (kE K) lt b c ms rd q24_2.2 P)
    refine r_istore (pc := 27) (lv' := [(0, .ref (kB K + 35)), (4, vI q24_2.1)]) X [1, 0] dX6_apart_27 (by decide) rfl ?_
    refine r_iload (pc := 29) X 1 dX6_apart_29 rfl ?_
    refine r_bipush (pc := 31) X 8 dX6_apart_31 (by decide) ?_
    refine r_isub (pc := 33) X dX6_apart_33 ?_
    exact r_iret (pc := 34) X rfl rfl (by decide) dX6_apart_34
  refine r_ck1 (fun h3 => ?_)
  refine r_ifeq (pc := 5) X h3 dX6_apart_5 (tgt := 21) (by decide) (fun h4 => ?_) (fun h4 => ?_)
  · refine r_sub [0] rfl ?_
    exact hj21
  · refine r_aload_n (pc := 8) X 0 dX6_apart_8 rfl rfl ?_
    refine r_iload_n (pc := 9) X 2 dX6_apart_9 rfl rfl ?_
    refine r_callV (pc := 10) (q0 := 35) (ci := 6) (As := [vI x2]) (rest := []) (W' := fun q10_5 => (Zw (kE K) lt b c ms rd m P)) (rv := fun q10_5 => some (vI q10_5)) X dX6_apart_10 rfl (fun a ha => c_X6_has N lt b c ms rd m P x2 K.1.2.1 K.2.2.1.1 (kE K) a ha) (fun a => Zw_d _ _ _ _ _ _ _ _) gd_X6_204 rfl (n := 1) (by decide) rfl (by decide) rfl rfl rfl (Nat.zero_le _) (fun q10_5 eq10_5 => ?_)
    show Rn K _ 0 0 _ 13 [(0, .ref (kB K + 35)), (1, vI x1), (2, vI x2), (3, vI x3)] [vI q10_5] (Zw (kE K) lt b c ms rd m P)
    refine r_ck1 (fun h6 => ?_)
    refine r_ifeq (pc := 13) X h6 dX6_apart_13 (tgt := 21) (by decide) (fun h7 => ?_) (fun h7 => ?_)
    · refine r_sub [0] rfl ?_
      exact hj21
    · refine r_iload_n (pc := 16) X 3 dX6_apart_16 rfl rfl ?_
      refine r_iconst (pc := 17) X (-1) dX6_apart_17 (by decide) ?_
      refine r_ck1 (fun h8 => ?_)
      refine r_icmp_ge (pc := 18) X h8 (by decide) dX6_apart_18 (tgt := 35) (by decide) (fun h9 => ?_) (fun h9 => ?_)
      · refine r_aload_n (pc := 35) X 0 dX6_apart_35 rfl rfl ?_
        refine r_iload_n (pc := 36) X 1 dX6_apart_36 rfl rfl ?_
        refine r_iload_n (pc := 37) X 2 dX6_apart_37 rfl rfl ?_
        refine r_callV (pc := 38) (q0 := 35) (ci := 6) (As := [vI x1, vI x2]) (rest := []) (W' := fun q38_10 => (Zw (kE K) lt b c ms rd q38_10.2 P)) (rv := fun q38_10 => some (vI q38_10.1)) X dX6_apart_38 rfl (fun a ha => c_X6_both N lt b c ms rd m P x1 x2 K.1.2.1 K.2.2.1.1 (kE K) a ha) (fun a => Zw_d _ _ _ _ _ _ _ _) gd_X6_207 rfl (n := 2) (by decide) rfl (by decide) rfl rfl rfl (Nat.zero_le _) (fun q38_10 eq38_10 => ?_)
        show Rn K _ 0 0 _ 41 [(0, .ref (kB K + 35)), (1, vI x1), (2, vI x2), (3, vI x3)] [vI q38_10.1] (Zw (kE K) lt b c ms rd q38_10.2 P)
        refine r_istore (pc := 41) (lv' := [(0, .ref (kB K + 35)), (1, vI x1), (2, vI x2), (3, vI x3), (4, vI q38_10.1)]) X [1, 2, 3, 4, 0] dX6_apart_41 (by decide) rfl ?_
        refine r_aload_n (pc := 43) X 0 dX6_apart_43 rfl rfl ?_
        refine r_iconst (pc := 44) X 0 dX6_apart_44 (by decide) ?_
        refine r_iload (pc := 45) X 4 dX6_apart_45 rfl ?_
        refine r_callV (pc := 47) (q0 := 35) (ci := 6) (As := [vI 0, vI q38_10.1]) (rest := []) (W' := fun q47_11 => (Zw (kE K) lt b c ms rd q47_11.2 P)) (rv := fun q47_11 => some (vI q47_11.1)) X dX6_apart_47 rfl (fun a ha => c_X6_clash N lt b c ms rd q38_10.2 P 0 q38_10.1 K.1.2.1 K.2.2.1.1 (kE K) a ha) (fun a => Zw_d _ _ _ _ _ _ _ _) gd_X6_210 rfl (n := 2) (by decide) rfl (by decide) rfl rfl rfl (Nat.zero_le _) (fun q47_11 eq47_11 => ?_)
        show Rn K _ 0 0 _ 50 [(0, .ref (kB K + 35)), (1, vI x1), (2, vI x2), (3, vI x3), (4, vI q38_10.1)] [vI q47_11.1] (Zw (kE K) lt b c ms rd q47_11.2 P)
        refine r_istore (pc := 50) (lv' := [(0, .ref (kB K + 35)), (1, vI x1), (2, vI x2), (3, vI x3), (4, vI q38_10.1), (5, vI q47_11.1)]) X [1, 2, 3, 4, 5, 0] dX6_apart_50 (by decide) rfl ?_
        refine r_iload (pc := 52) X 5 dX6_apart_52 rfl ?_
        refine r_iconst (pc := 54) X (-1) dX6_apart_54 (by decide) ?_
        refine r_ck1 (fun h12 => ?_)
        refine r_icmp_ne (pc := 55) X h12 (by decide) dX6_apart_55 (tgt := 61) (by decide) (fun h13 => ?_) (fun h13 => ?_)
        · refine r_iconst (pc := 61) X 0 dX6_apart_61 (by decide) ?_
          refine r_istore (pc := 62) (lv' := [(0, .ref (kB K + 35)), (1, vI x1), (2, vI x2), (3, vI x3), (4, vI q38_10.1), (5, vI q47_11.1), (6, vI 0)]) X [1, 2, 3, 4, 5, 6, 0] dX6_apart_62 (by decide) rfl ?_
          refine r_iload (pc := 64) X 5 dX6_apart_64 rfl ?_
          refine r_istore (pc := 66) (lv' := [(0, .ref (kB K + 35)), (1, vI x1), (2, vI x2), (3, vI x3), (4, vI q38_10.1), (5, vI q47_11.1), (6, vI 0), (7, vI q47_11.1)]) X [1, 2, 3, 4, 5, 6, 7, 0] dX6_apart_66 (by decide) rfl ?_
          refine r_sub [0, 3, 5, 6, 7] rfl ?_
          refine t_X6_apart_L68 N lt b c ms rd m P q47_11.2 x3 q47_11.1 K X _ ?_ N 0 q47_11.1
          intro x6_68
          refine r_iload_n (pc := 93) X 1 dX6_apart_93 rfl rfl ?_
          refine r_iconst (pc := 94) X (-1) dX6_apart_94 (by decide) ?_
          refine r_icmp_ne (pc := 95) X h8 (by decide) dX6_apart_95 (tgt := 101) (by decide) (fun h17 => ?_) (fun h17 => ?_)
          · refine r_iload_n (pc := 101) X 1 dX6_apart_101 rfl rfl ?_
            refine r_iload (pc := 102) X 3 dX6_apart_102 rfl ?_
            refine r_ck1 (fun h18 => ?_)
            refine r_icmp_lt (pc := 104) X h8 h18 dX6_apart_104 (tgt := 110) (by decide) (fun h19 => ?_) (fun h19 => ?_)
            · refine r_iload (pc := 110) X 2 dX6_apart_110 rfl ?_
              refine r_istore (pc := 112) (lv' := [(0, .ref (kB K + 35)), (3, vI x3), (5, vI q47_11.1), (6, vI x6_68), (7, vI q47_11.1)]) X [1, 2, 3, 4, 0] dX6_apart_112 (by decide) rfl ?_
              refine r_iload (pc := 114) X 3 dX6_apart_114 rfl ?_
              refine r_iconst (pc := 116) X 1 dX6_apart_116 (by decide) ?_
              refine r_isub (pc := 117) X dX6_apart_117 ?_
              refine r_istore (pc := 118) (lv' := [(0, .ref (kB K + 35)), (3, vI x3), (5, vI q47_11.1), (6, vI x6_68), (7, vI q47_11.1), (8, vI (x6_68 - 1))]) X [1, 2, 3, 4, 5, 0] dX6_apart_118 (by decide) rfl ?_
              refine r_sub [0, 1, 4, 5] rfl ?_
              refine t_X6_apart_L120 N lt b c ms rd m P q47_11.2 x3 K X _ ?_ N q47_11.1 (x6_68 - 1)
              intro x7_120
              refine r_aload_n (pc := 141) X 0 dX6_apart_141 rfl rfl ?_
              refine r_get (pc := 142) (v := .ref (kB K + 52)) X 35 21 inX6 rfl rfl (by decide) tf_X6_58 rfl dX6_apart_142 ?_
              refine r_iload (pc := 145) X 1 dX6_apart_145 rfl ?_
              refine r_ckA (fun h24 => ?_)
              refine r_iald (pc := 147) (f := q47_11.2 21) X 52 h24 zl_6400 rfl dX6_apart_147 ?_
              exact r_iret (pc := 148) X rfl rfl (by decide) dX6_apart_148
            · refine r_bipush (pc := 107) X (-5) dX6_apart_107 (by decide) ?_
              exact r_iret (pc := 109) X rfl rfl (by decide) dX6_apart_109
          · refine r_iload (pc := 98) X 3 dX6_apart_98 rfl ?_
            exact r_iret (pc := 100) X rfl rfl (by decide) dX6_apart_100
        · refine r_bipush (pc := 58) X (-6) dX6_apart_58 (by decide) ?_
          exact r_iret (pc := 60) X rfl rfl (by decide) dX6_apart_60
      · refine r_sub [0] rfl ?_
        exact hj21
theorem c_X6_apart (N : Nat) (lt b c ms rd m : Bd) (P : PL) (x1 x2 x3 : Int) (l : Launch) (D : va_G) (E : ET) (a : Int × Bd) (ha : f_X6_apart N m x1 x2 x3 = some a) : Ct l yX6_apart (Cond.code yX6_apart cX6_apart 9 (some .int) :: lw_g) ({ frames := 4, cells := 0, slots := 0, locals := 91 } : Room) D E [.ref (E.2.2.2 + 35), vI x1, vI x2, vI x3] (Zw E lt b c ms rd m P) (Zw E lt b c ms rd a.2 P) (some (vI a.1)) :=
  ct_of (av := fun E => [.ref (E.2.2.2 + 35), vI x1, vI x2, vI x3]) (W0 := fun E => Zw E lt b c ms rd m P) (W1 := fun E (a : Int × Bd) => Zw E lt b c ms rd a.2 P) (rw := fun E a => some (vI a.1)) (by decide) rfl (fun E => Zw_d E lt b c ms rd m P) (fun E => by simp [lg_sl, z_cat, z_catR, z_catI, z_catL]) (fun K X => r_lv (by simp [lv_args, z_cat, z_catR, z_catI, z_catL]) (t_X6_apart N lt b c ms rd m P x1 x2 x3 K X)) l D E a ha
abbrev Q_X6_near (K : KT) (lt b c ms rd m : Bd) (P : PL) : (Int × Bd) → State → Prop := Qm K ({ frames := 4, cells := 0, slots := 0, locals := 91 } : Room) (fun a : Int × Bd => Zw (kE K) lt b c ms rd a.2 P) (fun a => some (vI a.1))
set_option maxRecDepth 100000 in
set_option maxHeartbeats 4000000 in
theorem t_X6_near_L50 (N : Nat) (lt b c ms rd m : Bd) (P : PL) (x3 x4 x5 : Int) (K : KT) (X : Kok K cX6_near yX6_near.cls lw_g ({ frames := 4, cells := 0, slots := 0, locals := 91 } : Room) (some .int) 12) (k : Bd → Option (Int × Bd)) (hk : ∀ (m1 : Bd), Rn K (Q_X6_near K lt b c ms rd m P) 0 0 (k m1) 74 [(0, .ref (kB K + 35)), (3, vI x3), (4, vI x4), (5, vI x5)] [] (Zw (kE K) lt b c ms rd m1 P)) : ∀ (n : Nat) (x6 : Int) (m1 : Bd), Rn K (Q_X6_near K lt b c ms rd m P) 0 0 (f_X6_near_L50 x3 x4 x5 k n x6 m1) 50 [(0, .ref (kB K + 35)), (3, vI x3), (4, vI x4), (5, vI x5), (6, vI x6)] [] (Zw (kE K) lt b c ms rd m1 P) := by
  intro n
  induction n with
  | zero =>
    intro x6 m1
    rw [f_X6_near_L50]
    exact r_none
  | succ n ih =>
    intro x6 m1
    rw [f_X6_near_L50]
    refine r_iload (pc := 50) X 4 dX6_near_50 rfl ?_
    refine r_iload (pc := 52) X 3 dX6_near_52 rfl ?_
    refine r_iload (pc := 54) X 3 dX6_near_54 rfl ?_
    refine r_imul (pc := 56) X dX6_near_56 ?_
    refine r_ck1 (fun h12 => ?_)
    refine r_ck1 (fun h13 => ?_)
    refine r_icmp_ge (pc := 57) X h12 h13 dX6_near_57 (tgt := 74) (by decide) (fun h14 => ?_) (fun h14 => ?_)
    · refine r_sub [0, 1, 2, 3] rfl ?_
      exact hk m1
    · refine r_aload_n (pc := 60) X 0 dX6_near_60 rfl rfl ?_
      refine r_get (pc := 61) (v := .ref (kB K + 49)) X 35 18 inX6 rfl rfl (by decide) tf_X6_49 rfl dX6_near_61 ?_
      refine r_iload (pc := 64) X 4 dX6_near_64 rfl ?_
      refine r_iconst (pc := 66) X 0 dX6_near_66 (by decide) ?_
      refine r_ckA (fun h15 => ?_)
      refine r_iast (pc := 67) (f := m1 18) (ws' := (Zw (kE K) lt b c ms rd (bS m1 18 (aS (m1 18) x6 0)) P)) X 49 h15 zl_6400 rfl rfl dX6_near_67 ?_
      refine r_iinc (pc := 68) (lv' := [(0, .ref (kB K + 35)), (3, vI x3), (4, vI x4), (5, vI x5), (6, vI (x6 + 1))]) X 4 [1, 2, 3, 4, 0] dX6_near_68 rfl (by decide) rfl ?_
      refine r_goto (pc := 71) X dX6_near_71 (tgt := 50) (by decide) ?_
      exact ih (x6 + 1) (bS m1 18 (aS (m1 18) x6 0))
set_option maxRecDepth 100000 in
set_option maxHeartbeats 4000000 in
theorem t_X6_near_L162 (N : Nat) (lt b c ms rd m : Bd) (P : PL) (x3 x5 x7 x8 x9 : Int) (K : KT) (X : Kok K cX6_near yX6_near.cls lw_g ({ frames := 4, cells := 0, slots := 0, locals := 91 } : Room) (some .int) 12) (k : Int → Bd → Option (Int × Bd)) (hk : ∀ (x6 : Int) (m1 : Bd), Rn K (Q_X6_near K lt b c ms rd m P) 0 0 (k x6 m1) 258 [(0, .ref (kB K + 35)), (3, vI x3), (5, vI x5), (6, vI x6), (7, vI x7)] [] (Zw (kE K) lt b c ms rd m1 P)) : ∀ (n : Nat) (x6 : Int) (x10 : Int) (m1 : Bd), Rn K (Q_X6_near K lt b c ms rd m P) 0 0 (f_X6_near_L162 x3 x5 x7 x8 x9 k n x6 x10 m1) 162 [(0, .ref (kB K + 35)), (3, vI x3), (5, vI x5), (6, vI x6), (7, vI x7), (8, vI x8), (9, vI x9), (10, vI x10)] [] (Zw (kE K) lt b c ms rd m1 P) := by
  intro n
  induction n with
  | zero =>
    intro x6 x10 m1
    rw [f_X6_near_L162]
    exact r_none
  | succ n ih =>
    intro x6 x10 m1
    rw [f_X6_near_L162]
    refine r_iload (pc := 162) X 7 dX6_near_162 rfl ?_
    refine r_iload (pc := 164) X 5 dX6_near_164 rfl ?_
    refine r_callS (pc := 166) (As := [vI x8]) (rest := [vI x10]) (W' := fun q166_31 => (Zw (kE K) lt b c ms rd m1 P)) (rv := fun q166_31 => some (vI q166_31)) X dX6_near_166 rfl (fun a ha => c_X6_headOf N lt b c ms rd m1 P x8 K.1.2.1 K.2.2.1.1 (kE K) a ha) (fun a => Zw_d _ _ _ _ _ _ _ _) gd_X6_102 rfl (n := 1) (by decide) rfl (by decide) (by simp [z_cat, z_catR, z_catI, z_catL]) (fun q166_31 eq166_31 => ?_)
    show Rn K _ 0 0 _ 169 [(0, .ref (kB K + 35)), (3, vI x3), (5, vI x5), (6, vI x6), (7, vI x7), (8, vI x8), (9, vI x9), (10, vI x10)] [vI q166_31, vI x10] (Zw (kE K) lt b c ms rd m1 P)
    refine r_callS (pc := 169) (As := [vI q166_31]) (rest := [vI x10]) (W' := fun q169_32 => (Zw (kE K) lt b c ms rd m1 P)) (rv := fun q169_32 => some (vI q169_32)) X dX6_near_169 rfl (fun a ha => c_X6_parts N lt b c ms rd m1 P q166_31 K.1.2.1 K.2.2.1.1 (kE K) a ha) (fun a => Zw_d _ _ _ _ _ _ _ _) gd_X6_113 rfl (n := 1) (by decide) rfl (by decide) (by simp [z_cat, z_catR, z_catI, z_catL]) (fun q169_32 eq169_32 => ?_)
    show Rn K _ 0 0 _ 172 [(0, .ref (kB K + 35)), (3, vI x3), (5, vI x5), (6, vI x6), (7, vI x7), (8, vI x8), (9, vI x9), (10, vI x10)] [vI q169_32, vI x10] (Zw (kE K) lt b c ms rd m1 P)
    refine r_ck1 (fun h33 => ?_)
    refine r_ck1 (fun h34 => ?_)
    refine r_icmp_ge (pc := 172) X h33 h34 dX6_near_172 (tgt := 258) (by decide) (fun h35 => ?_) (fun h35 => ?_)
    · refine r_sub [0, 1, 2, 3, 4] rfl ?_
      exact hk x6 m1
    · refine r_aload_n (pc := 175) X 0 dX6_near_175 rfl rfl ?_
      refine r_get (pc := 176) (v := .ref (kB K + 52)) X 35 21 inX6 rfl rfl (by decide) tf_X6_58 rfl dX6_near_176 ?_
      refine r_iload (pc := 179) X 4 dX6_near_179 rfl ?_
      refine r_ckA (fun h36 => ?_)
      refine r_iald (pc := 181) (f := m1 21) X 52 h36 zl_6400 rfl dX6_near_181 ?_
      refine r_iload_n (pc := 182) X 1 dX6_near_182 rfl rfl ?_
      refine r_ck1 (fun h37 => ?_)
      refine r_ck1 (fun h38 => ?_)
      refine r_icmp_ge (pc := 183) X h37 h38 dX6_near_183 (tgt := 258) (by decide) (fun h39 => ?_) (fun h39 => ?_)
      · refine r_sub [0, 1, 2, 3, 4] rfl ?_
        exact hk x6 m1
      · refine r_iload (pc := 186) X 2 dX6_near_186 rfl ?_
        refine r_iload (pc := 188) X 5 dX6_near_188 rfl ?_
        refine r_iload (pc := 190) X 7 dX6_near_190 rfl ?_
        refine r_callS (pc := 192) (As := [vI x8, vI x10]) (rest := [vI x5]) (W' := fun q192_40 => (Zw (kE K) lt b c ms rd m1 P)) (rv := fun q192_40 => some (vI q192_40)) X dX6_near_192 rfl (fun a ha => c_X6_partOf N lt b c ms rd m1 P x8 x10 K.1.2.1 K.2.2.1.1 (kE K) a ha) (fun a => Zw_d _ _ _ _ _ _ _ _) gd_X6_106 rfl (n := 2) (by decide) rfl (by decide) (by simp [z_cat, z_catR, z_catI, z_catL]) (fun q192_40 eq192_40 => ?_)
        show Rn K _ 0 0 _ 195 [(0, .ref (kB K + 35)), (3, vI x3), (5, vI x5), (6, vI x6), (7, vI x7), (8, vI x8), (9, vI x9), (10, vI x10)] [vI q192_40, vI x5] (Zw (kE K) lt b c ms rd m1 P)
        refine r_imul (pc := 195) X dX6_near_195 ?_
        refine r_iload (pc := 196) X 6 dX6_near_196 rfl ?_
        refine r_iload (pc := 198) X 7 dX6_near_198 rfl ?_
        refine r_callS (pc := 200) (As := [vI x9, vI x10]) (rest := [vI (x5 * q192_40)]) (W' := fun q200_41 => (Zw (kE K) lt b c ms rd m1 P)) (rv := fun q200_41 => some (vI q200_41)) X dX6_near_200 rfl (fun a ha => c_X6_partOf N lt b c ms rd m1 P x9 x10 K.1.2.1 K.2.2.1.1 (kE K) a ha) (fun a => Zw_d _ _ _ _ _ _ _ _) gd_X6_106 rfl (n := 2) (by decide) rfl (by decide) (by simp [z_cat, z_catR, z_catI, z_catL]) (fun q200_41 eq200_41 => ?_)
        show Rn K _ 0 0 _ 203 [(0, .ref (kB K + 35)), (3, vI x3), (5, vI x5), (6, vI x6), (7, vI x7), (8, vI x8), (9, vI x9), (10, vI x10)] [vI q200_41, vI (x5 * q192_40)] (Zw (kE K) lt b c ms rd m1 P)
        refine r_iadd (pc := 203) X dX6_near_203 ?_
        refine r_istore (pc := 204) (lv' := [(0, .ref (kB K + 35)), (3, vI x3), (5, vI x5), (6, vI x6), (7, vI x7), (8, vI x8), (9, vI x9), (10, vI x10), (11, vI ((x5 * q192_40) + q200_41))]) X [1, 2, 3, 4, 5, 6, 7, 8, 0] dX6_near_204 (by decide) rfl ?_
        refine r_aload_n (pc := 206) X 0 dX6_near_206 rfl rfl ?_
        refine r_get (pc := 207) (v := .ref (kB K + 49)) X 35 18 inX6 rfl rfl (by decide) tf_X6_49 rfl dX6_near_207 ?_
        refine r_iload (pc := 210) X 8 dX6_near_210 rfl ?_
        refine r_ckA (fun h42 => ?_)
        refine r_iald (pc := 212) (f := m1 18) X 49 h42 zl_6400 rfl dX6_near_212 ?_
        refine r_ck1 (fun h43 => ?_)
        refine r_ifne (pc := 213) X h43 dX6_near_213 (tgt := 252) (by decide) (fun h44 => ?_) (fun h44 => ?_)
        · refine r_iinc (pc := 252) (lv' := [(0, .ref (kB K + 35)), (3, vI x3), (5, vI x5), (6, vI x6), (7, vI x7), (8, vI x8), (9, vI x9), (10, vI (x10 + 1)), (11, vI ((x5 * q192_40) + q200_41))]) X 7 [1, 2, 3, 4, 5, 6, 7, 0, 8] dX6_near_252 rfl (by decide) rfl ?_
          refine r_goto (pc := 255) X dX6_near_255 (tgt := 162) (by decide) ?_
          refine r_sub [0, 1, 2, 3, 4, 5, 6, 7] rfl ?_
          exact ih x6 (x10 + 1) m1
        · refine r_aload_n (pc := 216) X 0 dX6_near_216 rfl rfl ?_
          refine r_get (pc := 217) (v := .ref (kB K + 49)) X 35 18 inX6 rfl rfl (by decide) tf_X6_49 rfl dX6_near_217 ?_
          refine r_iload (pc := 220) X 8 dX6_near_220 rfl ?_
          refine r_iconst (pc := 222) X 1 dX6_near_222 (by decide) ?_
          refine r_iast (pc := 223) (f := m1 18) (ws' := (Zw (kE K) lt b c ms rd (bS m1 18 (aS (m1 18) ((x5 * q192_40) + q200_41) 1)) P)) X 49 h42 zl_6400 rfl rfl dX6_near_223 ?_
          refine r_aload_n (pc := 224) X 0 dX6_near_224 rfl rfl ?_
          refine r_get (pc := 225) (v := .ref (kB K + 50)) X 35 19 inX6 rfl rfl (by decide) tf_X6_52 rfl dX6_near_225 ?_
          refine r_iload (pc := 228) X 3 dX6_near_228 rfl ?_
          refine r_iload (pc := 230) X 8 dX6_near_230 rfl ?_
          refine r_ckA (fun h45 => ?_)
          refine r_iast (pc := 232) (f := m1 19) (ws' := (Zw (kE K) lt b c ms rd (bS (bS m1 18 (aS (m1 18) ((x5 * q192_40) + q200_41) 1)) 19 (aS (m1 19) x6 ((x5 * q192_40) + q200_41))) P)) X 50 h45 zl_6400 rfl rfl dX6_near_232 ?_
          refine r_aload_n (pc := 233) X 0 dX6_near_233 rfl rfl ?_
          refine r_get (pc := 234) (v := .ref (kB K + 52)) X 35 21 inX6 rfl rfl (by decide) tf_X6_58 rfl dX6_near_234 ?_
          refine r_iload (pc := 237) X 3 dX6_near_237 rfl ?_
          refine r_aload_n (pc := 239) X 0 dX6_near_239 rfl rfl ?_
          refine r_get (pc := 240) (v := .ref (kB K + 52)) X 35 21 inX6 rfl rfl (by decide) tf_X6_58 rfl dX6_near_240 ?_
          refine r_iload (pc := 243) X 4 dX6_near_243 rfl ?_
          refine r_iald (pc := 245) (f := m1 21) X 52 h36 zl_6400 rfl dX6_near_245 ?_
          refine r_iconst (pc := 246) X 1 dX6_near_246 (by decide) ?_
          refine r_iadd (pc := 247) X dX6_near_247 ?_
          refine r_iast (pc := 248) (f := m1 21) (ws' := (Zw (kE K) lt b c ms rd (bS (bS (bS m1 18 (aS (m1 18) ((x5 * q192_40) + q200_41) 1)) 19 (aS (m1 19) x6 ((x5 * q192_40) + q200_41))) 21 (aS (m1 21) x6 ((m1 21 x7) + 1))) P)) X 52 h45 zl_6400 rfl rfl dX6_near_248 ?_
          refine r_iinc (pc := 249) (lv' := [(0, .ref (kB K + 35)), (3, vI x3), (5, vI x5), (6, vI (x6 + 1)), (7, vI x7), (8, vI x8), (9, vI x9), (10, vI x10), (11, vI ((x5 * q192_40) + q200_41))]) X 3 [1, 2, 3, 0, 4, 5, 6, 7, 8] dX6_near_249 rfl (by decide) rfl ?_
          refine r_iinc (pc := 252) (lv' := [(0, .ref (kB K + 35)), (3, vI x3), (5, vI x5), (6, vI (x6 + 1)), (7, vI x7), (8, vI x8), (9, vI x9), (10, vI (x10 + 1)), (11, vI ((x5 * q192_40) + q200_41))]) X 7 [1, 2, 3, 4, 5, 6, 7, 0, 8] dX6_near_252 rfl (by decide) rfl ?_
          refine r_goto (pc := 255) X dX6_near_255 (tgt := 162) (by decide) ?_
          refine r_sub [0, 1, 2, 3, 4, 5, 6, 7] rfl ?_
          exact ih (x6 + 1) (x10 + 1) (bS (bS (bS m1 18 (aS (m1 18) ((x5 * q192_40) + q200_41) 1)) 19 (aS (m1 19) x6 ((x5 * q192_40) + q200_41))) 21 (aS (m1 21) x6 ((m1 21 x7) + 1)))
set_option maxRecDepth 100000 in
set_option maxHeartbeats 4000000 in
theorem t_X6_near_L103 (N : Nat) (lt b c ms rd m : Bd) (P : PL) (x3 x5 : Int) (K : KT) (X : Kok K cX6_near yX6_near.cls lw_g ({ frames := 4, cells := 0, slots := 0, locals := 91 } : Room) (some .int) 12) (k : Bd → Option (Int × Bd)) (hk : ∀ (m1 : Bd), Rn K (Q_X6_near K lt b c ms rd m P) 0 0 (k m1) 264 [] [] (Zw (kE K) lt b c ms rd m1 P)) : ∀ (n : Nat) (x6 : Int) (x7 : Int) (m1 : Bd), Rn K (Q_X6_near K lt b c ms rd m P) 0 0 (f_X6_near_L103 N x3 x5 k n x6 x7 m1) 103 [(0, .ref (kB K + 35)), (3, vI x3), (5, vI x5), (6, vI x6), (7, vI x7)] [] (Zw (kE K) lt b c ms rd m1 P) := by
  intro n
  induction n with
  | zero =>
    intro x6 x7 m1
    rw [f_X6_near_L103]
    exact r_none
  | succ n ih =>
    intro x6 x7 m1
    rw [f_X6_near_L103]
    refine r_iload (pc := 103) X 4 dX6_near_103 rfl ?_
    refine r_iload (pc := 105) X 3 dX6_near_105 rfl ?_
    refine r_ck1 (fun h17 => ?_)
    refine r_ck1 (fun h18 => ?_)
    refine r_icmp_ge (pc := 107) X h17 h18 dX6_near_107 (tgt := 264) (by decide) (fun h19 => ?_) (fun h19 => ?_)
    · refine r_sub [] rfl ?_
      exact hk m1
    · refine r_aload_n (pc := 110) X 0 dX6_near_110 rfl rfl ?_
      refine r_get (pc := 111) (v := .ref (kB K + 42)) X 35 9 inX6 rfl rfl (by decide) tf_X6_28 rfl dX6_near_111 ?_
      refine r_aload_n (pc := 114) X 0 dX6_near_114 rfl rfl ?_
      refine r_get (pc := 115) (v := .ref (kB K + 50)) X 35 19 inX6 rfl rfl (by decide) tf_X6_52 rfl dX6_near_115 ?_
      refine r_iload (pc := 118) X 4 dX6_near_118 rfl ?_
      refine r_ckA (fun h20 => ?_)
      refine r_iald (pc := 120) (f := m1 19) X 50 h20 zl_6400 rfl dX6_near_120 ?_
      refine r_iload (pc := 121) X 2 dX6_near_121 rfl ?_
      refine r_ck1 (fun h21 => ?_)
      refine r_ck1 (fun h22 => ?_)
      refine r_ckZ (fun h23 => ?_)
      refine r_idiv (pc := 123) X h21 h22 h23 dX6_near_123 ?_
      refine r_ckA (fun h24 => ?_)
      refine r_iald (pc := 124) (f := m1 9) X 42 h24 zl_3400 rfl dX6_near_124 ?_
      refine r_istore (pc := 125) (lv' := [(0, .ref (kB K + 35)), (3, vI x3), (5, vI x5), (6, vI x6), (7, vI x7), (8, vI (m1 9 (Int.tdiv (m1 19 x7) x5)))]) X [1, 2, 3, 4, 5, 0] dX6_near_125 (by decide) rfl ?_
      refine r_aload_n (pc := 127) X 0 dX6_near_127 rfl rfl ?_
      refine r_get (pc := 128) (v := .ref (kB K + 42)) X 35 9 inX6 rfl rfl (by decide) tf_X6_28 rfl dX6_near_128 ?_
      refine r_aload_n (pc := 131) X 0 dX6_near_131 rfl rfl ?_
      refine r_get (pc := 132) (v := .ref (kB K + 50)) X 35 19 inX6 rfl rfl (by decide) tf_X6_52 rfl dX6_near_132 ?_
      refine r_iload (pc := 135) X 4 dX6_near_135 rfl ?_
      refine r_iald (pc := 137) (f := m1 19) X 50 h20 zl_6400 rfl dX6_near_137 ?_
      refine r_iload (pc := 138) X 2 dX6_near_138 rfl ?_
      refine r_irem (pc := 140) X h21 h22 h23 dX6_near_140 ?_
      refine r_ckA (fun h25 => ?_)
      refine r_iald (pc := 141) (f := m1 9) X 42 h25 zl_3400 rfl dX6_near_141 ?_
      refine r_istore (pc := 142) (lv' := [(0, .ref (kB K + 35)), (3, vI x3), (5, vI x5), (6, vI x6), (7, vI x7), (8, vI (m1 9 (Int.tdiv (m1 19 x7) x5))), (9, vI (m1 9 (Int.tmod (m1 19 x7) x5)))]) X [1, 2, 3, 4, 5, 6, 0] dX6_near_142 (by decide) rfl ?_
      refine r_iload (pc := 144) X 5 dX6_near_144 rfl ?_
      refine r_callS (pc := 146) (As := [vI (m1 9 (Int.tdiv (m1 19 x7) x5))]) (rest := []) (W' := fun q146_26 => (Zw (kE K) lt b c ms rd m1 P)) (rv := fun q146_26 => some (vI q146_26)) X dX6_near_146 rfl (fun a ha => c_X6_headOf N lt b c ms rd m1 P (m1 9 (Int.tdiv (m1 19 x7) x5)) K.1.2.1 K.2.2.1.1 (kE K) a ha) (fun a => Zw_d _ _ _ _ _ _ _ _) gd_X6_102 rfl (n := 1) (by decide) rfl (by decide) (Nat.zero_le _) (fun q146_26 eq146_26 => ?_)
      show Rn K _ 0 0 _ 149 [(0, .ref (kB K + 35)), (3, vI x3), (5, vI x5), (6, vI x6), (7, vI x7), (8, vI (m1 9 (Int.tdiv (m1 19 x7) x5))), (9, vI (m1 9 (Int.tmod (m1 19 x7) x5)))] [vI q146_26] (Zw (kE K) lt b c ms rd m1 P)
      refine r_iload (pc := 149) X 6 dX6_near_149 rfl ?_
      refine r_callS (pc := 151) (As := [vI (m1 9 (Int.tmod (m1 19 x7) x5))]) (rest := [vI q146_26]) (W' := fun q151_27 => (Zw (kE K) lt b c ms rd m1 P)) (rv := fun q151_27 => some (vI q151_27)) X dX6_near_151 rfl (fun a ha => c_X6_headOf N lt b c ms rd m1 P (m1 9 (Int.tmod (m1 19 x7) x5)) K.1.2.1 K.2.2.1.1 (kE K) a ha) (fun a => Zw_d _ _ _ _ _ _ _ _) gd_X6_102 rfl (n := 1) (by decide) rfl (by decide) (by simp [z_cat, z_catR, z_catI, z_catL]) (fun q151_27 eq151_27 => ?_)
      show Rn K _ 0 0 _ 154 [(0, .ref (kB K + 35)), (3, vI x3), (5, vI x5), (6, vI x6), (7, vI x7), (8, vI (m1 9 (Int.tdiv (m1 19 x7) x5))), (9, vI (m1 9 (Int.tmod (m1 19 x7) x5)))] [vI q151_27, vI q146_26] (Zw (kE K) lt b c ms rd m1 P)
      refine r_ck1 (fun h28 => ?_)
      refine r_ck1 (fun h29 => ?_)
      refine r_icmp_eq (pc := 154) X h28 h29 dX6_near_154 (tgt := 159) (by decide) (fun h30 => ?_) (fun h30 => ?_)
      · refine r_iconst (pc := 159) X 0 dX6_near_159 (by decide) ?_
        refine r_istore (pc := 160) (lv' := [(0, .ref (kB K + 35)), (3, vI x3), (5, vI x5), (6, vI x6), (7, vI x7), (8, vI (m1 9 (Int.tdiv (m1 19 x7) x5))), (9, vI (m1 9 (Int.tmod (m1 19 x7) x5))), (10, vI 0)]) X [1, 2, 3, 4, 5, 6, 7, 0] dX6_near_160 (by decide) rfl ?_
        refine t_X6_near_L162 N lt b c ms rd m P  x3 x5 x7 (m1 9 (Int.tdiv (m1 19 x7) x5)) (m1 9 (Int.tmod (m1 19 x7) x5)) K X _ ?_ N x6 0 m1
        intro x6_162 m_162
        refine r_iinc (pc := 258) (lv' := [(0, .ref (kB K + 35)), (3, vI x3), (5, vI x5), (6, vI x6_162), (7, vI (x7 + 1))]) X 4 [1, 2, 3, 4, 0] dX6_near_258 rfl (by decide) rfl ?_
        refine r_goto (pc := 261) X dX6_near_261 (tgt := 103) (by decide) ?_
        exact ih x6_162 (x7 + 1) m_162
      · refine r_iconst (pc := 157) X 0 dX6_near_157 (by decide) ?_
        exact r_iret (pc := 158) X rfl rfl (by decide) dX6_near_158
set_option maxRecDepth 100000 in
set_option maxHeartbeats 4000000 in
theorem t_X6_near (N : Nat) (lt b c ms rd m : Bd) (P : PL) (x1 x2 x3 : Int) (K : KT) (X : Kok K cX6_near yX6_near.cls lw_g ({ frames := 4, cells := 0, slots := 0, locals := 91 } : Room) (some .int) 12) : Rn K (Q_X6_near K lt b c ms rd m P) 0 0 (f_X6_near N m x1 x2 x3) 0 [(0, .ref (kB K + 35)), (1, vI x1), (2, vI x2), (3, vI x3)] [] (Zw (kE K) lt b c ms rd m P) := by
  unfold f_X6_near
  refine r_aload_n (pc := 0) X 0 dX6_near_0 rfl rfl ?_
  refine r_iload_n (pc := 1) X 1 dX6_near_1 rfl rfl ?_
  refine r_callV (pc := 2) (q0 := 35) (ci := 6) (As := [vI x1]) (rest := []) (W' := fun q2_1 => (Zw (kE K) lt b c ms rd m P)) (rv := fun q2_1 => some (vI q2_1)) X dX6_near_2 rfl (fun a ha => c_X6_has N lt b c ms rd m P x1 K.1.2.1 K.2.2.1.1 (kE K) a ha) (fun a => Zw_d _ _ _ _ _ _ _ _) gd_X6_204 rfl (n := 1) (by decide) rfl (by decide) rfl rfl rfl (Nat.zero_le _) (fun q2_1 eq2_1 => ?_)
  show Rn K _ 0 0 _ 5 [(0, .ref (kB K + 35)), (1, vI x1), (2, vI x2), (3, vI x3)] [vI q2_1] (Zw (kE K) lt b c ms rd m P)
  refine r_jn (J := fun j26 => Rn K (Q_X6_near K lt b c ms rd m P) 0 0 j26 26 [(0, .ref (kB K + 35))] [] (Zw (kE K) lt b c ms rd m P)) ?_ (fun j26 hj26 => ?_)
  · skip
    refine r_aload_n (pc := 26) X 0 dX6_near_26 rfl rfl ?_
    refine r_bipush (pc := 27) X (-2) dX6_near_27 (by decide) ?_
    refine r_callV (pc := 29) (q0 := 35) (ci := 6) (As := [vI (-2)]) (rest := []) (W' := fun q29_2 => (Zw (kE K) lt b c ms rd q29_2.2 P)) (rv := fun q29_2 => some (vI q29_2.1)) X dX6_near_29 rfl (fun a ha => c_X6_refuses N lt b c ms rd m P (-2) K.1.2.1 K.2.2.1.1 (kE K) a ha) (fun a => Zw_d _ _ _ _ _ _ _ _) gd_X6_138 rfl (n := 1) (by decide) rfl (by decide) rfl rfl rfl (Nat.zero_le _) (fun q29_2 eq29_2 => ?_)
    show Rn K _ 0 0 _ 32 [(0, .ref (kB K + 35))] [vI q29_2.1] (Zw (kE K) lt b c ms rd q29_2.2 P)
    exact r_iret (pc := 32) X rfl rfl (by decide) dX6_near_32
  refine r_ck1 (fun h3 => ?_)
  refine r_ifeq (pc := 5) X h3 dX6_near_5 (tgt := 26) (by decide) (fun h4 => ?_) (fun h4 => ?_)
  · refine r_sub [0] rfl ?_
    exact hj26
  · refine r_aload_n (pc := 8) X 0 dX6_near_8 rfl rfl ?_
    refine r_iload_n (pc := 9) X 2 dX6_near_9 rfl rfl ?_
    refine r_callV (pc := 10) (q0 := 35) (ci := 6) (As := [vI x2]) (rest := []) (W' := fun q10_5 => (Zw (kE K) lt b c ms rd m P)) (rv := fun q10_5 => some (vI q10_5)) X dX6_near_10 rfl (fun a ha => c_X6_has N lt b c ms rd m P x2 K.1.2.1 K.2.2.1.1 (kE K) a ha) (fun a => Zw_d _ _ _ _ _ _ _ _) gd_X6_204 rfl (n := 1) (by decide) rfl (by decide) rfl rfl rfl (Nat.zero_le _) (fun q10_5 eq10_5 => ?_)
    show Rn K _ 0 0 _ 13 [(0, .ref (kB K + 35)), (1, vI x1), (2, vI x2), (3, vI x3)] [vI q10_5] (Zw (kE K) lt b c ms rd m P)
    refine r_ck1 (fun h6 => ?_)
    refine r_ifeq (pc := 13) X h6 dX6_near_13 (tgt := 26) (by decide) (fun h7 => ?_) (fun h7 => ?_)
    · refine r_sub [0] rfl ?_
      exact hj26
    · refine r_iload_n (pc := 16) X 3 dX6_near_16 rfl rfl ?_
      refine r_iconst (pc := 17) X 0 dX6_near_17 (by decide) ?_
      refine r_bipush (pc := 18) X 60 dX6_near_18 (by decide) ?_
      refine r_callS (pc := 20) (As := [vI x3, vI 0, vI 60]) (rest := []) (W' := fun q20_8 => (Zw (kE K) lt b c ms rd m P)) (rv := fun q20_8 => some (vI q20_8)) X dX6_near_20 rfl (fun a ha => c_X6_in N lt b c ms rd m P x3 0 60 K.1.2.1 K.2.2.1.1 (kE K) a ha) (fun a => Zw_d _ _ _ _ _ _ _ _) gd_X6_86 rfl (n := 3) (by decide) rfl (by decide) (Nat.zero_le _) (fun q20_8 eq20_8 => ?_)
      show Rn K _ 0 0 _ 23 [(0, .ref (kB K + 35)), (1, vI x1), (2, vI x2), (3, vI x3)] [vI q20_8] (Zw (kE K) lt b c ms rd m P)
      refine r_ck1 (fun h9 => ?_)
      refine r_ifne (pc := 23) X h9 dX6_near_23 (tgt := 33) (by decide) (fun h10 => ?_) (fun h10 => ?_)
      · refine r_aload_n (pc := 33) X 0 dX6_near_33 rfl rfl ?_
        refine r_iload_n (pc := 34) X 1 dX6_near_34 rfl rfl ?_
        refine r_iload_n (pc := 35) X 2 dX6_near_35 rfl rfl ?_
        refine r_callV (pc := 36) (q0 := 35) (ci := 6) (As := [vI x1, vI x2]) (rest := []) (W' := fun q36_11 => (Zw (kE K) lt b c ms rd q36_11.2 P)) (rv := fun q36_11 => some (vI q36_11.1)) X dX6_near_36 rfl (fun a ha => c_X6_both N lt b c ms rd m P x1 x2 K.1.2.1 K.2.2.1.1 (kE K) a ha) (fun a => Zw_d _ _ _ _ _ _ _ _) gd_X6_207 rfl (n := 2) (by decide) rfl (by decide) rfl rfl rfl (Nat.zero_le _) (fun q36_11 eq36_11 => ?_)
        show Rn K _ 0 0 _ 39 [(0, .ref (kB K + 35)), (1, vI x1), (2, vI x2), (3, vI x3)] [vI q36_11.1] (Zw (kE K) lt b c ms rd q36_11.2 P)
        refine r_istore (pc := 39) (lv' := [(0, .ref (kB K + 35)), (1, vI x1), (2, vI x2), (3, vI x3), (4, vI q36_11.1)]) X [1, 2, 3, 4, 0] dX6_near_39 (by decide) rfl ?_
        refine r_aload_n (pc := 41) X 0 dX6_near_41 rfl rfl ?_
        refine r_get (pc := 42) (v := vI (q36_11.2 10 0)) X 35 10 inX6 rfl rfl (by decide) tf_X6_94 rfl dX6_near_42 ?_
        refine r_istore (pc := 45) (lv' := [(0, .ref (kB K + 35)), (1, vI x1), (2, vI x2), (3, vI x3), (4, vI q36_11.1), (5, vI (q36_11.2 10 0))]) X [1, 2, 3, 4, 5, 0] dX6_near_45 (by decide) rfl ?_
        refine r_iconst (pc := 47) X 0 dX6_near_47 (by decide) ?_
        refine r_istore (pc := 48) (lv' := [(0, .ref (kB K + 35)), (1, vI x1), (2, vI x2), (3, vI x3), (4, vI q36_11.1), (5, vI (q36_11.2 10 0)), (6, vI 0)]) X [1, 2, 3, 4, 5, 6, 0] dX6_near_48 (by decide) rfl ?_
        refine r_sub [0, 3, 4, 5, 6] rfl ?_
        refine t_X6_near_L50 N lt b c ms rd m P  x3 q36_11.1 (q36_11.2 10 0) K X _ ?_ N 0 q36_11.2
        intro m_50
        refine r_aload_n (pc := 74) X 0 dX6_near_74 rfl rfl ?_
        refine r_get (pc := 75) (v := .ref (kB K + 50)) X 35 19 inX6 rfl rfl (by decide) tf_X6_52 rfl dX6_near_75 ?_
        refine r_iconst (pc := 78) X 0 dX6_near_78 (by decide) ?_
        refine r_iload (pc := 79) X 2 dX6_near_79 rfl ?_
        refine r_iast (pc := 81) (f := m_50 19) (ws' := (Zw (kE K) lt b c ms rd (bS m_50 19 (aS (m_50 19) 0 q36_11.1)) P)) X 50 (by decide) zl_6400 rfl rfl dX6_near_81 ?_
        refine r_aload_n (pc := 82) X 0 dX6_near_82 rfl rfl ?_
        refine r_get (pc := 83) (v := .ref (kB K + 52)) X 35 21 inX6 rfl rfl (by decide) tf_X6_58 rfl dX6_near_83 ?_
        refine r_iconst (pc := 86) X 0 dX6_near_86 (by decide) ?_
        refine r_iconst (pc := 87) X 0 dX6_near_87 (by decide) ?_
        refine r_iast (pc := 88) (f := m_50 21) (ws' := (Zw (kE K) lt b c ms rd (bS (bS m_50 19 (aS (m_50 19) 0 q36_11.1)) 21 (aS (m_50 21) 0 0)) P)) X 52 (by decide) zl_6400 rfl rfl dX6_near_88 ?_
        refine r_aload_n (pc := 89) X 0 dX6_near_89 rfl rfl ?_
        refine r_get (pc := 90) (v := .ref (kB K + 49)) X 35 18 inX6 rfl rfl (by decide) tf_X6_49 rfl dX6_near_90 ?_
        refine r_iload (pc := 93) X 2 dX6_near_93 rfl ?_
        refine r_iconst (pc := 95) X 1 dX6_near_95 (by decide) ?_
        refine r_ckA (fun h16 => ?_)
        refine r_iast (pc := 96) (f := m_50 18) (ws' := (Zw (kE K) lt b c ms rd (bS (bS (bS m_50 18 (aS (m_50 18) q36_11.1 1)) 19 (aS (m_50 19) 0 q36_11.1)) 21 (aS (m_50 21) 0 0)) P)) X 49 h16 zl_6400 rfl rfl dX6_near_96 ?_
        refine r_iconst (pc := 97) X 1 dX6_near_97 (by decide) ?_
        refine r_istore (pc := 98) (lv' := [(0, .ref (kB K + 35)), (3, vI x3), (4, vI q36_11.1), (5, vI (q36_11.2 10 0)), (6, vI 1)]) X [1, 2, 3, 4, 0] dX6_near_98 (by decide) rfl ?_
        refine r_iconst (pc := 100) X 0 dX6_near_100 (by decide) ?_
        refine r_istore (pc := 101) (lv' := [(0, .ref (kB K + 35)), (3, vI x3), (4, vI q36_11.1), (5, vI (q36_11.2 10 0)), (6, vI 1), (7, vI 0)]) X [1, 2, 3, 4, 5, 0] dX6_near_101 (by decide) rfl ?_
        refine r_sub [0, 1, 3, 4, 5] rfl ?_
        refine t_X6_near_L103 N lt b c ms rd m P  x3 (q36_11.2 10 0) K X _ ?_ N 1 0 (bS (bS (bS m_50 18 (aS (m_50 18) q36_11.1 1)) 19 (aS (m_50 19) 0 q36_11.1)) 21 (aS (m_50 21) 0 0))
        intro m_103
        refine r_iconst (pc := 264) X 1 dX6_near_264 (by decide) ?_
        exact r_iret (pc := 265) X rfl rfl (by decide) dX6_near_265
      · refine r_sub [0] rfl ?_
        exact hj26
theorem c_X6_near (N : Nat) (lt b c ms rd m : Bd) (P : PL) (x1 x2 x3 : Int) (l : Launch) (D : va_G) (E : ET) (a : Int × Bd) (ha : f_X6_near N m x1 x2 x3 = some a) : Ct l yX6_near (Cond.code yX6_near cX6_near 12 (some .int) :: lw_g) ({ frames := 4, cells := 0, slots := 0, locals := 91 } : Room) D E [.ref (E.2.2.2 + 35), vI x1, vI x2, vI x3] (Zw E lt b c ms rd m P) (Zw E lt b c ms rd a.2 P) (some (vI a.1)) :=
  ct_of (av := fun E => [.ref (E.2.2.2 + 35), vI x1, vI x2, vI x3]) (W0 := fun E => Zw E lt b c ms rd m P) (W1 := fun E (a : Int × Bd) => Zw E lt b c ms rd a.2 P) (rw := fun E a => some (vI a.1)) (by decide) rfl (fun E => Zw_d E lt b c ms rd m P) (fun E => by simp [lg_sl, z_cat, z_catR, z_catI, z_catL]) (fun K X => r_lv (by simp [lv_args, z_cat, z_catR, z_catI, z_catL]) (t_X6_near N lt b c ms rd m P x1 x2 x3 K X)) l D E a ha
abbrev Q_X6_bothApart (K : KT) (lt b c ms rd m : Bd) (P : PL) : (Int × Bd) → State → Prop := Qm K ({ frames := 4, cells := 0, slots := 0, locals := 92 } : Room) (fun a : Int × Bd => Zw (kE K) lt b c ms rd a.2 P) (fun a => some (vI a.1))
set_option maxRecDepth 100000 in
set_option maxHeartbeats 4000000 in
theorem t_X6_bothApart_L10 (N : Nat) (lt b c ms rd m : Bd) (P : PL) (x3 : Int) (K : KT) (X : Kok K cX6_bothApart yX6_bothApart.cls lw_g ({ frames := 4, cells := 0, slots := 0, locals := 92 } : Room) (some .int) 5) (k : Bd → Option (Int × Bd)) (hk : ∀ (m1 : Bd), Rn K (Q_X6_bothApart K lt b c ms rd m P) 0 0 (k m1) 43 [(0, .ref (kB K + 35)), (3, vI x3)] [] (Zw (kE K) lt b c ms rd m1 P)) : ∀ (n : Nat) (x4 : Int) (m1 : Bd), Rn K (Q_X6_bothApart K lt b c ms rd m P) 0 0 (f_X6_bothApart_L10 x3 k n x4 m1) 10 [(0, .ref (kB K + 35)), (3, vI x3), (4, vI x4)] [] (Zw (kE K) lt b c ms rd m1 P) := by
  intro n
  induction n with
  | zero =>
    intro x4 m1
    rw [f_X6_bothApart_L10]
    exact r_none
  | succ n ih =>
    intro x4 m1
    rw [f_X6_bothApart_L10]
    refine r_iload (pc := 10) X 2 dX6_bothApart_10 rfl ?_
    refine r_aload_n (pc := 12) X 0 dX6_bothApart_12 rfl rfl ?_
    refine r_get (pc := 13) (v := vI (m1 10 0)) X 35 10 inX6 rfl rfl (by decide) tf_X6_94 rfl dX6_bothApart_13 ?_
    refine r_ck1 (fun h2 => ?_)
    refine r_ck1 (fun h3 => ?_)
    refine r_icmp_ge (pc := 16) X h2 h3 dX6_bothApart_16 (tgt := 43) (by decide) (fun h4 => ?_) (fun h4 => ?_)
    · refine r_sub [0, 1] rfl ?_
      exact hk m1
    · refine r_aload_n (pc := 19) X 0 dX6_bothApart_19 rfl rfl ?_
      refine r_get (pc := 20) (v := .ref (kB K + 43)) X 35 11 inX6 rfl rfl (by decide) tf_X6_31 rfl dX6_bothApart_20 ?_
      refine r_iload (pc := 23) X 2 dX6_bothApart_23 rfl ?_
      refine r_iload (pc := 25) X 2 dX6_bothApart_25 rfl ?_
      refine r_ckA (fun h5 => ?_)
      refine r_iast (pc := 27) (f := m1 11) (ws' := (Zw (kE K) lt b c ms rd (bS m1 11 (aS (m1 11) x4 x4)) P)) X 43 h5 zl_3400 rfl rfl dX6_bothApart_27 ?_
      refine r_aload_n (pc := 28) X 0 dX6_bothApart_28 rfl rfl ?_
      refine r_get (pc := 29) (v := .ref (kB K + 44)) X 35 12 inX6 rfl rfl (by decide) tf_X6_34 rfl dX6_bothApart_29 ?_
      refine r_iload (pc := 32) X 2 dX6_bothApart_32 rfl ?_
      refine r_iload (pc := 34) X 2 dX6_bothApart_34 rfl ?_
      refine r_iast (pc := 36) (f := m1 12) (ws' := (Zw (kE K) lt b c ms rd (bS (bS m1 11 (aS (m1 11) x4 x4)) 12 (aS (m1 12) x4 x4)) P)) X 44 h5 zl_3400 rfl rfl dX6_bothApart_36 ?_
      refine r_iinc (pc := 37) (lv' := [(0, .ref (kB K + 35)), (3, vI x3), (4, vI (x4 + 1))]) X 2 [1, 2, 0] dX6_bothApart_37 rfl (by decide) rfl ?_
      refine r_goto (pc := 40) X dX6_bothApart_40 (tgt := 10) (by decide) ?_
      exact ih (x4 + 1) (bS (bS m1 11 (aS (m1 11) x4 x4)) 12 (aS (m1 12) x4 x4))
set_option maxRecDepth 100000 in
set_option maxHeartbeats 4000000 in
theorem t_X6_bothApart (N : Nat) (lt b c ms rd m : Bd) (P : PL) (x1 x2 : Int) (K : KT) (X : Kok K cX6_bothApart yX6_bothApart.cls lw_g ({ frames := 4, cells := 0, slots := 0, locals := 92 } : Room) (some .int) 5) : Rn K (Q_X6_bothApart K lt b c ms rd m P) 0 0 (f_X6_bothApart N m x1 x2) 0 [(0, .ref (kB K + 35)), (1, vI x1), (2, vI x2)] [] (Zw (kE K) lt b c ms rd m P) := by
  unfold f_X6_bothApart
  refine r_aload_n (pc := 0) X 0 dX6_bothApart_0 rfl rfl ?_
  refine r_iload_n (pc := 1) X 1 dX6_bothApart_1 rfl rfl ?_
  refine r_iload_n (pc := 2) X 2 dX6_bothApart_2 rfl rfl ?_
  refine r_callV (pc := 3) (q0 := 35) (ci := 6) (As := [vI x1, vI x2]) (rest := []) (W' := fun q3_1 => (Zw (kE K) lt b c ms rd q3_1.2 P)) (rv := fun q3_1 => some (vI q3_1.1)) X dX6_bothApart_3 rfl (fun a ha => c_X6_both N lt b c ms rd m P x1 x2 K.1.2.1 K.2.2.1.1 (kE K) a ha) (fun a => Zw_d _ _ _ _ _ _ _ _) gd_X6_207 rfl (n := 2) (by decide) rfl (by decide) rfl rfl rfl (Nat.zero_le _) (fun q3_1 eq3_1 => ?_)
  show Rn K _ 0 0 _ 6 [(0, .ref (kB K + 35)), (1, vI x1), (2, vI x2)] [vI q3_1.1] (Zw (kE K) lt b c ms rd q3_1.2 P)
  refine r_istore_n (pc := 6) (lv' := [(0, .ref (kB K + 35)), (1, vI x1), (2, vI x2), (3, vI q3_1.1)]) X [1, 2, 3, 0] dX6_bothApart_6 rfl (by decide) rfl ?_
  refine r_iconst (pc := 7) X 0 dX6_bothApart_7 (by decide) ?_
  refine r_istore (pc := 8) (lv' := [(0, .ref (kB K + 35)), (1, vI x1), (2, vI x2), (3, vI q3_1.1), (4, vI 0)]) X [1, 2, 3, 4, 0] dX6_bothApart_8 (by decide) rfl ?_
  refine r_sub [0, 3, 4] rfl ?_
  refine t_X6_bothApart_L10 N lt b c ms rd m P  q3_1.1 K X _ ?_ N 0 q3_1.2
  intro m_10
  refine r_aload_n (pc := 43) X 0 dX6_bothApart_43 rfl rfl ?_
  refine r_aload_n (pc := 44) X 0 dX6_bothApart_44 rfl rfl ?_
  refine r_get (pc := 45) (v := vI (m_10 10 0)) X 35 10 inX6 rfl rfl (by decide) tf_X6_94 rfl dX6_bothApart_45 ?_
  refine r_bipush (pc := 48) X 80 dX6_bothApart_48 (by decide) ?_
  refine r_callV (pc := 50) (q0 := 35) (ci := 6) (As := [vI (m_10 10 0), vI 80]) (rest := []) (W' := fun q50_6 => (Zw (kE K) lt b c ms rd q50_6.2 P)) (rv := fun q50_6 => some (vI q50_6.1)) X dX6_bothApart_50 rfl (fun a ha => c_X6_tellsApart N lt b c ms rd m_10 P (m_10 10 0) 80 K.1.2.1 K.2.2.1.1 (kE K) a ha) (fun a => Zw_d _ _ _ _ _ _ _ _) gd_X6_126 rfl (n := 2) (by decide) rfl (by decide) rfl rfl rfl (Nat.zero_le _) (fun q50_6 eq50_6 => ?_)
  show Rn K _ 0 0 _ 53 [(0, .ref (kB K + 35)), (3, vI q3_1.1)] [vI q50_6.1] (Zw (kE K) lt b c ms rd q50_6.2 P)
  refine r_pop (pc := 53) X dX6_bothApart_53 rfl ?_
  refine r_iload_n (pc := 54) X 1 dX6_bothApart_54 rfl rfl ?_
  exact r_iret (pc := 55) X rfl rfl (by decide) dX6_bothApart_55
theorem c_X6_bothApart (N : Nat) (lt b c ms rd m : Bd) (P : PL) (x1 x2 : Int) (l : Launch) (D : va_G) (E : ET) (a : Int × Bd) (ha : f_X6_bothApart N m x1 x2 = some a) : Ct l yX6_bothApart (Cond.code yX6_bothApart cX6_bothApart 5 (some .int) :: lw_g) ({ frames := 4, cells := 0, slots := 0, locals := 92 } : Room) D E [.ref (E.2.2.2 + 35), vI x1, vI x2] (Zw E lt b c ms rd m P) (Zw E lt b c ms rd a.2 P) (some (vI a.1)) :=
  ct_of (av := fun E => [.ref (E.2.2.2 + 35), vI x1, vI x2]) (W0 := fun E => Zw E lt b c ms rd m P) (W1 := fun E (a : Int × Bd) => Zw E lt b c ms rd a.2 P) (rw := fun E a => some (vI a.1)) (by decide) rfl (fun E => Zw_d E lt b c ms rd m P) (fun E => by simp [lg_sl, z_cat, z_catR, z_catI, z_catL]) (fun K X => r_lv (by simp [lv_args, z_cat, z_catR, z_catI, z_catL]) (t_X6_bothApart N lt b c ms rd m P x1 x2 K X)) l D E a ha
abbrev Q_X6_shared (K : KT) (lt b c ms rd m : Bd) (P : PL) : (Int × Bd) → State → Prop := Qm K ({ frames := 5, cells := 0, slots := 0, locals := 116 } : Room) (fun a : Int × Bd => Zw (kE K) lt b c ms rd a.2 P) (fun a => some (vI a.1))
set_option maxRecDepth 100000 in
set_option maxHeartbeats 4000000 in
theorem t_X6_shared_L48 (N : Nat) (lt b c ms rd m : Bd) (P : PL) (m1 : Bd) (x3 x4 x5 : Int) (K : KT) (X : Kok K cX6_shared yX6_shared.cls lw_g ({ frames := 5, cells := 0, slots := 0, locals := 116 } : Room) (some .int) 8) (k : Int → Option (Int × Bd)) (hk : ∀ (x6 : Int), Rn K (Q_X6_shared K lt b c ms rd m P) 0 0 (k x6) 92 [(0, .ref (kB K + 35)), (3, vI x3), (4, vI x4), (5, vI x5), (6, vI x6)] [] (Zw (kE K) lt b c ms rd m1 P)) : ∀ (n : Nat) (x6 : Int) (x7 : Int), Rn K (Q_X6_shared K lt b c ms rd m P) 0 0 (f_X6_shared_L48 m1 x3 x4 x5 k n x6 x7) 48 [(0, .ref (kB K + 35)), (3, vI x3), (4, vI x4), (5, vI x5), (6, vI x6), (7, vI x7)] [] (Zw (kE K) lt b c ms rd m1 P) := by
  intro n
  induction n with
  | zero =>
    intro x6 x7
    rw [f_X6_shared_L48]
    exact r_none
  | succ n ih =>
    intro x6 x7
    rw [f_X6_shared_L48]
    refine r_iload (pc := 48) X 5 dX6_shared_48 rfl ?_
    refine r_aload_n (pc := 50) X 0 dX6_shared_50 rfl rfl ?_
    refine r_get (pc := 51) (v := vI (m1 10 0)) X 35 10 inX6 rfl rfl (by decide) tf_X6_94 rfl dX6_shared_51 ?_
    refine r_ck1 (fun h12 => ?_)
    refine r_ck1 (fun h13 => ?_)
    refine r_icmp_ge (pc := 54) X h12 h13 dX6_shared_54 (tgt := 92) (by decide) (fun h14 => ?_) (fun h14 => ?_)
    · refine r_sub [0, 1, 2, 3, 4] rfl ?_
      exact hk x6
    · refine r_iload (pc := 57) X 4 dX6_shared_57 rfl ?_
      refine r_ck1 (fun h15 => ?_)
      refine r_ifne (pc := 59) X h15 dX6_shared_59 (tgt := 79) (by decide) (fun h16 => ?_) (fun h16 => ?_)
      · refine r_iconst (pc := 79) X 1 dX6_shared_79 (by decide) ?_
        refine r_goto (pc := 80) X dX6_shared_80 (tgt := 84) (by decide) ?_
        refine r_istore (pc := 84) (lv' := [(0, .ref (kB K + 35)), (3, vI x3), (4, vI x4), (5, vI x5), (6, vI 1), (7, vI x7)]) X [1, 2, 3, 4, 0, 5] dX6_shared_84 (by decide) rfl ?_
        refine r_iinc (pc := 86) (lv' := [(0, .ref (kB K + 35)), (3, vI x3), (4, vI x4), (5, vI x5), (6, vI 1), (7, vI (x7 + 1))]) X 5 [1, 2, 3, 4, 5, 0] dX6_shared_86 rfl (by decide) rfl ?_
        refine r_goto (pc := 89) X dX6_shared_89 (tgt := 48) (by decide) ?_
        exact ih 1 (x7 + 1)
      · refine r_aload_n (pc := 62) X 0 dX6_shared_62 rfl rfl ?_
        refine r_get (pc := 63) (v := .ref (kB K + 45)) X 35 13 inX6 rfl rfl (by decide) tf_X6_37 rfl dX6_shared_63 ?_
        refine r_iload (pc := 66) X 5 dX6_shared_66 rfl ?_
        refine r_ckA (fun h17 => ?_)
        refine r_iald (pc := 68) (f := m1 13) X 45 h17 zl_3400 rfl dX6_shared_68 ?_
        refine r_aload_n (pc := 69) X 0 dX6_shared_69 rfl rfl ?_
        refine r_get (pc := 70) (v := .ref (kB K + 45)) X 35 13 inX6 rfl rfl (by decide) tf_X6_37 rfl dX6_shared_70 ?_
        refine r_iload (pc := 73) X 3 dX6_shared_73 rfl ?_
        refine r_ckA (fun h18 => ?_)
        refine r_iald (pc := 75) (f := m1 13) X 45 h18 zl_3400 rfl dX6_shared_75 ?_
        refine r_ck1 (fun h19 => ?_)
        refine r_ck1 (fun h20 => ?_)
        refine r_icmp_ne (pc := 76) X h19 h20 dX6_shared_76 (tgt := 83) (by decide) (fun h21 => ?_) (fun h21 => ?_)
        · refine r_iconst (pc := 83) X 0 dX6_shared_83 (by decide) ?_
          refine r_istore (pc := 84) (lv' := [(0, .ref (kB K + 35)), (3, vI x3), (4, vI x4), (5, vI x5), (6, vI 0), (7, vI x7)]) X [1, 2, 3, 4, 0, 5] dX6_shared_84 (by decide) rfl ?_
          refine r_iinc (pc := 86) (lv' := [(0, .ref (kB K + 35)), (3, vI x3), (4, vI x4), (5, vI x5), (6, vI 0), (7, vI (x7 + 1))]) X 5 [1, 2, 3, 4, 5, 0] dX6_shared_86 rfl (by decide) rfl ?_
          refine r_goto (pc := 89) X dX6_shared_89 (tgt := 48) (by decide) ?_
          exact ih 0 (x7 + 1)
        · refine r_iconst (pc := 79) X 1 dX6_shared_79 (by decide) ?_
          refine r_goto (pc := 80) X dX6_shared_80 (tgt := 84) (by decide) ?_
          refine r_istore (pc := 84) (lv' := [(0, .ref (kB K + 35)), (3, vI x3), (4, vI x4), (5, vI x5), (6, vI 1), (7, vI x7)]) X [1, 2, 3, 4, 0, 5] dX6_shared_84 (by decide) rfl ?_
          refine r_iinc (pc := 86) (lv' := [(0, .ref (kB K + 35)), (3, vI x3), (4, vI x4), (5, vI x5), (6, vI 1), (7, vI (x7 + 1))]) X 5 [1, 2, 3, 4, 5, 0] dX6_shared_86 rfl (by decide) rfl ?_
          refine r_goto (pc := 89) X dX6_shared_89 (tgt := 48) (by decide) ?_
          exact ih 1 (x7 + 1)
set_option maxRecDepth 100000 in
set_option maxHeartbeats 4000000 in
theorem t_X6_shared_L36 (N : Nat) (lt b c ms rd m : Bd) (P : PL) (m1 : Bd) (x3 : Int) (K : KT) (X : Kok K cX6_shared yX6_shared.cls lw_g ({ frames := 5, cells := 0, slots := 0, locals := 116 } : Room) (some .int) 8) (k : Int → Option (Int × Bd)) (hk : ∀ (x4 : Int), Rn K (Q_X6_shared K lt b c ms rd m P) 0 0 (k x4) 113 [(4, vI x4)] [] (Zw (kE K) lt b c ms rd m1 P)) : ∀ (n : Nat) (x4 : Int) (x5 : Int), Rn K (Q_X6_shared K lt b c ms rd m P) 0 0 (f_X6_shared_L36 N m1 x3 k n x4 x5) 36 [(0, .ref (kB K + 35)), (3, vI x3), (4, vI x4), (5, vI x5)] [] (Zw (kE K) lt b c ms rd m1 P) := by
  intro n
  induction n with
  | zero =>
    intro x4 x5
    rw [f_X6_shared_L36]
    exact r_none
  | succ n ih =>
    intro x4 x5
    rw [f_X6_shared_L36]
    refine r_iload (pc := 36) X 3 dX6_shared_36 rfl ?_
    refine r_iload_n (pc := 38) X 1 dX6_shared_38 rfl rfl ?_
    refine r_ck1 (fun h9 => ?_)
    refine r_ck1 (fun h10 => ?_)
    refine r_icmp_ge (pc := 39) X h9 h10 dX6_shared_39 (tgt := 113) (by decide) (fun h11 => ?_) (fun h11 => ?_)
    · refine r_sub [2] rfl ?_
      exact hk x4
    · refine r_iconst (pc := 42) X 0 dX6_shared_42 (by decide) ?_
      refine r_istore (pc := 43) (lv' := [(0, .ref (kB K + 35)), (3, vI x3), (4, vI x4), (5, vI x5), (6, vI 0)]) X [1, 2, 3, 4, 0] dX6_shared_43 (by decide) rfl ?_
      refine r_iload_n (pc := 45) X 1 dX6_shared_45 rfl rfl ?_
      refine r_istore (pc := 46) (lv' := [(0, .ref (kB K + 35)), (3, vI x3), (4, vI x4), (5, vI x5), (6, vI 0), (7, vI x3)]) X [1, 2, 3, 4, 5, 0] dX6_shared_46 (by decide) rfl ?_
      refine t_X6_shared_L48 N lt b c ms rd m P m1 x3 x4 x5 K X _ ?_ N 0 x3
      intro x6_48
      refine r_iload (pc := 92) X 2 dX6_shared_92 rfl ?_
      refine r_iload (pc := 94) X 4 dX6_shared_94 rfl ?_
      refine r_ck1 (fun h22 => ?_)
      refine r_jn (J := fun j104 => ∀ (s_104 : Int), Rn K (Q_X6_shared K lt b c ms rd m P) 0 0 (j104 s_104) 104 [(0, .ref (kB K + 35)), (3, vI x3), (4, vI x4), (5, vI x5), (6, vI x6_48)] [vI s_104, vI x4] (Zw (kE K) lt b c ms rd m1 P)) ?_ (fun j104 hj104 => ?_)
      · intro s_104
        refine r_iadd (pc := 104) X dX6_shared_104 ?_
        refine r_istore (pc := 105) (lv' := [(0, .ref (kB K + 35)), (3, vI x3), (4, vI (x4 + s_104)), (5, vI x5), (6, vI x6_48)]) X [1, 2, 0, 3, 4] dX6_shared_105 (by decide) rfl ?_
        refine r_iinc (pc := 107) (lv' := [(0, .ref (kB K + 35)), (3, vI x3), (4, vI (x4 + s_104)), (5, vI (x5 + 1)), (6, vI x6_48)]) X 3 [1, 2, 3, 0, 4] dX6_shared_107 rfl (by decide) rfl ?_
        refine r_goto (pc := 110) X dX6_shared_110 (tgt := 36) (by decide) ?_
        refine r_sub [0, 1, 2, 3] rfl ?_
        exact ih (x4 + s_104) (x5 + 1)
      refine r_eq (z_ite j104) ?_
      refine r_ifeq (pc := 96) X h22 dX6_shared_96 (tgt := 103) (by decide) (fun h23 => ?_) (fun h23 => ?_)
      · refine r_iconst (pc := 103) X 0 dX6_shared_103 (by decide) ?_
        exact hj104 0
      · refine r_iconst (pc := 99) X 1 dX6_shared_99 (by decide) ?_
        refine r_goto (pc := 100) X dX6_shared_100 (tgt := 104) (by decide) ?_
        exact hj104 1
set_option maxRecDepth 100000 in
set_option maxHeartbeats 4000000 in
theorem t_X6_shared (N : Nat) (lt b c ms rd m : Bd) (P : PL) (x1 x2 : Int) (K : KT) (X : Kok K cX6_shared yX6_shared.cls lw_g ({ frames := 5, cells := 0, slots := 0, locals := 116 } : Room) (some .int) 8) : Rn K (Q_X6_shared K lt b c ms rd m P) 0 0 (f_X6_shared N m x1 x2) 0 [(0, .ref (kB K + 35)), (1, vI x1), (2, vI x2)] [] (Zw (kE K) lt b c ms rd m P) := by
  unfold f_X6_shared
  refine r_aload_n (pc := 0) X 0 dX6_shared_0 rfl rfl ?_
  refine r_iload_n (pc := 1) X 1 dX6_shared_1 rfl rfl ?_
  refine r_callV (pc := 2) (q0 := 35) (ci := 6) (As := [vI x1]) (rest := []) (W' := fun q2_1 => (Zw (kE K) lt b c ms rd m P)) (rv := fun q2_1 => some (vI q2_1)) X dX6_shared_2 rfl (fun a ha => c_X6_has N lt b c ms rd m P x1 K.1.2.1 K.2.2.1.1 (kE K) a ha) (fun a => Zw_d _ _ _ _ _ _ _ _) gd_X6_204 rfl (n := 1) (by decide) rfl (by decide) rfl rfl rfl (Nat.zero_le _) (fun q2_1 eq2_1 => ?_)
  show Rn K _ 0 0 _ 5 [(0, .ref (kB K + 35)), (1, vI x1), (2, vI x2)] [vI q2_1] (Zw (kE K) lt b c ms rd m P)
  refine r_jn (J := fun j16 => Rn K (Q_X6_shared K lt b c ms rd m P) 0 0 j16 16 [(0, .ref (kB K + 35))] [] (Zw (kE K) lt b c ms rd m P)) ?_ (fun j16 hj16 => ?_)
  · skip
    refine r_aload_n (pc := 16) X 0 dX6_shared_16 rfl rfl ?_
    refine r_bipush (pc := 17) X (-2) dX6_shared_17 (by decide) ?_
    refine r_callV (pc := 19) (q0 := 35) (ci := 6) (As := [vI (-2)]) (rest := []) (W' := fun q19_2 => (Zw (kE K) lt b c ms rd q19_2.2 P)) (rv := fun q19_2 => some (vI q19_2.1)) X dX6_shared_19 rfl (fun a ha => c_X6_refuses N lt b c ms rd m P (-2) K.1.2.1 K.2.2.1.1 (kE K) a ha) (fun a => Zw_d _ _ _ _ _ _ _ _) gd_X6_138 rfl (n := 1) (by decide) rfl (by decide) rfl rfl rfl (Nat.zero_le _) (fun q19_2 eq19_2 => ?_)
    show Rn K _ 0 0 _ 22 [(0, .ref (kB K + 35))] [vI q19_2.1] (Zw (kE K) lt b c ms rd q19_2.2 P)
    exact r_iret (pc := 22) X rfl rfl (by decide) dX6_shared_22
  refine r_ck1 (fun h3 => ?_)
  refine r_ifeq (pc := 5) X h3 dX6_shared_5 (tgt := 16) (by decide) (fun h4 => ?_) (fun h4 => ?_)
  · refine r_sub [0] rfl ?_
    exact hj16
  · refine r_aload_n (pc := 8) X 0 dX6_shared_8 rfl rfl ?_
    refine r_iload_n (pc := 9) X 2 dX6_shared_9 rfl rfl ?_
    refine r_callV (pc := 10) (q0 := 35) (ci := 6) (As := [vI x2]) (rest := []) (W' := fun q10_5 => (Zw (kE K) lt b c ms rd m P)) (rv := fun q10_5 => some (vI q10_5)) X dX6_shared_10 rfl (fun a ha => c_X6_has N lt b c ms rd m P x2 K.1.2.1 K.2.2.1.1 (kE K) a ha) (fun a => Zw_d _ _ _ _ _ _ _ _) gd_X6_204 rfl (n := 1) (by decide) rfl (by decide) rfl rfl rfl (Nat.zero_le _) (fun q10_5 eq10_5 => ?_)
    show Rn K _ 0 0 _ 13 [(0, .ref (kB K + 35)), (1, vI x1), (2, vI x2)] [vI q10_5] (Zw (kE K) lt b c ms rd m P)
    refine r_ck1 (fun h6 => ?_)
    refine r_ifne (pc := 13) X h6 dX6_shared_13 (tgt := 23) (by decide) (fun h7 => ?_) (fun h7 => ?_)
    · refine r_aload_n (pc := 23) X 0 dX6_shared_23 rfl rfl ?_
      refine r_iload_n (pc := 24) X 1 dX6_shared_24 rfl rfl ?_
      refine r_iload_n (pc := 25) X 2 dX6_shared_25 rfl rfl ?_
      refine r_callV (pc := 26) (q0 := 35) (ci := 6) (As := [vI x1, vI x2]) (rest := []) (W' := fun q26_8 => (Zw (kE K) lt b c ms rd q26_8.2 P)) (rv := fun q26_8 => some (vI q26_8.1)) X dX6_shared_26 rfl (fun a ha => c_X6_bothApart N lt b c ms rd m P x1 x2 K.1.2.1 K.2.2.1.1 (kE K) a ha) (fun a => Zw_d _ _ _ _ _ _ _ _) gd_X6_213 rfl (n := 2) (by decide) rfl (by decide) rfl rfl rfl (Nat.zero_le _) (fun q26_8 eq26_8 => ?_)
      show Rn K _ 0 0 _ 29 [(0, .ref (kB K + 35)), (1, vI x1), (2, vI x2)] [vI q26_8.1] (Zw (kE K) lt b c ms rd q26_8.2 P)
      refine r_istore_n (pc := 29) (lv' := [(0, .ref (kB K + 35)), (1, vI x1), (2, vI x2), (3, vI q26_8.1)]) X [1, 2, 3, 0] dX6_shared_29 rfl (by decide) rfl ?_
      refine r_iconst (pc := 30) X 0 dX6_shared_30 (by decide) ?_
      refine r_istore (pc := 31) (lv' := [(0, .ref (kB K + 35)), (1, vI x1), (2, vI x2), (3, vI q26_8.1), (4, vI 0)]) X [1, 2, 3, 4, 0] dX6_shared_31 (by decide) rfl ?_
      refine r_iconst (pc := 33) X 0 dX6_shared_33 (by decide) ?_
      refine r_istore (pc := 34) (lv' := [(0, .ref (kB K + 35)), (1, vI x1), (2, vI x2), (3, vI q26_8.1), (4, vI 0), (5, vI 0)]) X [1, 2, 3, 4, 5, 0] dX6_shared_34 (by decide) rfl ?_
      refine r_sub [0, 3, 4, 5] rfl ?_
      refine t_X6_shared_L36 N lt b c ms rd m P q26_8.2 q26_8.1 K X _ ?_ N 0 0
      intro x4_36
      refine r_iload (pc := 113) X 0 dX6_shared_113 rfl ?_
      exact r_iret (pc := 115) X rfl rfl (by decide) dX6_shared_115
    · refine r_sub [0] rfl ?_
      exact hj16
theorem c_X6_shared (N : Nat) (lt b c ms rd m : Bd) (P : PL) (x1 x2 : Int) (l : Launch) (D : va_G) (E : ET) (a : Int × Bd) (ha : f_X6_shared N m x1 x2 = some a) : Ct l yX6_shared (Cond.code yX6_shared cX6_shared 8 (some .int) :: lw_g) ({ frames := 5, cells := 0, slots := 0, locals := 116 } : Room) D E [.ref (E.2.2.2 + 35), vI x1, vI x2] (Zw E lt b c ms rd m P) (Zw E lt b c ms rd a.2 P) (some (vI a.1)) :=
  ct_of (av := fun E => [.ref (E.2.2.2 + 35), vI x1, vI x2]) (W0 := fun E => Zw E lt b c ms rd m P) (W1 := fun E (a : Int × Bd) => Zw E lt b c ms rd a.2 P) (rw := fun E a => some (vI a.1)) (by decide) rfl (fun E => Zw_d E lt b c ms rd m P) (fun E => by simp [lg_sl, z_cat, z_catR, z_catI, z_catL]) (fun K X => r_lv (by simp [lv_args, z_cat, z_catR, z_catI, z_catL]) (t_X6_shared N lt b c ms rd m P x1 x2 K X)) l D E a ha
abbrev Q_X6_way (K : KT) (lt b c ms rd m : Bd) (P : PL) : (Int × Bd) → State → Prop := Qm K ({ frames := 5, cells := 0, slots := 0, locals := 116 } : Room) (fun a : Int × Bd => Zw (kE K) lt b c ms rd a.2 P) (fun a => some (vI a.1))
set_option maxRecDepth 100000 in
set_option maxHeartbeats 4000000 in
theorem t_X6_way_L41 (N : Nat) (lt b c ms rd m : Bd) (P : PL) (x3 x4 : Int) (K : KT) (X : Kok K cX6_way yX6_way.cls lw_g ({ frames := 5, cells := 0, slots := 0, locals := 116 } : Room) (some .int) 9) (k : Bd → Option (Int × Bd)) (hk : ∀ (m1 : Bd), Rn K (Q_X6_way K lt b c ms rd m P) 0 0 (k m1) 71 [(0, .ref (kB K + 35)), (3, vI x3), (4, vI x4)] [] (Zw (kE K) lt b c ms rd m1 P)) : ∀ (n : Nat) (x5 : Int) (m1 : Bd), Rn K (Q_X6_way K lt b c ms rd m P) 0 0 (f_X6_way_L41 x3 x4 k n x5 m1) 41 [(0, .ref (kB K + 35)), (3, vI x3), (4, vI x4), (5, vI x5)] [] (Zw (kE K) lt b c ms rd m1 P) := by
  intro n
  induction n with
  | zero =>
    intro x5 m1
    rw [f_X6_way_L41]
    exact r_none
  | succ n ih =>
    intro x5 m1
    rw [f_X6_way_L41]
    refine r_iload (pc := 41) X 3 dX6_way_41 rfl ?_
    refine r_iload_n (pc := 43) X 1 dX6_way_43 rfl rfl ?_
    refine r_ck1 (fun h10 => ?_)
    refine r_ck1 (fun h11 => ?_)
    refine r_icmp_ge (pc := 44) X h10 h11 dX6_way_44 (tgt := 71) (by decide) (fun h12 => ?_) (fun h12 => ?_)
    · refine r_sub [0, 1, 2] rfl ?_
      exact hk m1
    · refine r_aload_n (pc := 47) X 0 dX6_way_47 rfl rfl ?_
      refine r_get (pc := 48) (v := .ref (kB K + 52)) X 35 21 inX6 rfl rfl (by decide) tf_X6_58 rfl dX6_way_48 ?_
      refine r_iload (pc := 51) X 3 dX6_way_51 rfl ?_
      refine r_iload (pc := 53) X 3 dX6_way_53 rfl ?_
      refine r_jn (J := fun j64 => ∀ (s_64 : Int), Rn K (Q_X6_way K lt b c ms rd m P) 0 0 (j64 s_64) 64 [(0, .ref (kB K + 35)), (3, vI x3), (4, vI x4), (5, vI x5)] [vI s_64, vI x5, .ref (kB K + 52)] (Zw (kE K) lt b c ms rd m1 P)) ?_ (fun j64 hj64 => ?_)
      · intro s_64
        refine r_ckA (fun h14 => ?_)
        refine r_iast (pc := 64) (f := m1 21) (ws' := (Zw (kE K) lt b c ms rd (bS m1 21 (aS (m1 21) x5 s_64)) P)) X 52 h14 zl_6400 rfl rfl dX6_way_64 ?_
        refine r_iinc (pc := 65) (lv' := [(0, .ref (kB K + 35)), (3, vI x3), (4, vI x4), (5, vI (x5 + 1))]) X 3 [1, 2, 3, 0] dX6_way_65 rfl (by decide) rfl ?_
        refine r_goto (pc := 68) X dX6_way_68 (tgt := 41) (by decide) ?_
        exact ih (x5 + 1) (bS m1 21 (aS (m1 21) x5 s_64))
      refine r_eq (z_ite j64) ?_
      refine r_ifne (pc := 55) X h10 dX6_way_55 (tgt := 62) (by decide) (fun h13 => ?_) (fun h13 => ?_)
      · refine r_bipush (pc := 62) X 99 dX6_way_62 (by decide) ?_
        exact hj64 99
      · refine r_iconst (pc := 58) X 0 dX6_way_58 (by decide) ?_
        refine r_goto (pc := 59) X dX6_way_59 (tgt := 64) (by decide) ?_
        exact hj64 0
set_option maxRecDepth 100000 in
set_option maxHeartbeats 4000000 in
theorem t_X6_way_L93 (N : Nat) (lt b c ms rd m : Bd) (P : PL) (x3 x4 x5 x6 : Int) (K : KT) (X : Kok K cX6_way yX6_way.cls lw_g ({ frames := 5, cells := 0, slots := 0, locals := 116 } : Room) (some .int) 9) (k : Bd → Option (Int × Bd)) (hk : ∀ (m1 : Bd), Rn K (Q_X6_way K lt b c ms rd m P) 0 0 (k m1) 176 [(0, .ref (kB K + 35)), (3, vI x3), (4, vI x4), (5, vI x5), (6, vI x6)] [] (Zw (kE K) lt b c ms rd m1 P)) : ∀ (n : Nat) (x7 : Int) (m1 : Bd), Rn K (Q_X6_way K lt b c ms rd m P) 0 0 (f_X6_way_L93 x3 x4 x5 x6 k n x7 m1) 93 [(0, .ref (kB K + 35)), (3, vI x3), (4, vI x4), (5, vI x5), (6, vI x6), (7, vI x7)] [] (Zw (kE K) lt b c ms rd m1 P) := by
  intro n
  induction n with
  | zero =>
    intro x7 m1
    rw [f_X6_way_L93]
    exact r_none
  | succ n ih =>
    intro x7 m1
    rw [f_X6_way_L93]
    refine r_iload (pc := 93) X 5 dX6_way_93 rfl ?_
    refine r_aload_n (pc := 95) X 0 dX6_way_95 rfl rfl ?_
    refine r_get (pc := 96) (v := .ref (kB K + 42)) X 35 9 inX6 rfl rfl (by decide) tf_X6_28 rfl dX6_way_96 ?_
    refine r_iload (pc := 99) X 4 dX6_way_99 rfl ?_
    refine r_ckA (fun h20 => ?_)
    refine r_iald (pc := 101) (f := m1 9) X 42 h20 zl_3400 rfl dX6_way_101 ?_
    refine r_callS (pc := 102) (As := [vI (m1 9 x6)]) (rest := [vI x7]) (W' := fun q102_21 => (Zw (kE K) lt b c ms rd m1 P)) (rv := fun q102_21 => some (vI q102_21)) X dX6_way_102 rfl (fun a ha => c_X6_headOf N lt b c ms rd m1 P (m1 9 x6) K.1.2.1 K.2.2.1.1 (kE K) a ha) (fun a => Zw_d _ _ _ _ _ _ _ _) gd_X6_102 rfl (n := 1) (by decide) rfl (by decide) (by simp [z_cat, z_catR, z_catI, z_catL]) (fun q102_21 eq102_21 => ?_)
    show Rn K _ 0 0 _ 105 [(0, .ref (kB K + 35)), (3, vI x3), (4, vI x4), (5, vI x5), (6, vI x6), (7, vI x7)] [vI q102_21, vI x7] (Zw (kE K) lt b c ms rd m1 P)
    refine r_callS (pc := 105) (As := [vI q102_21]) (rest := [vI x7]) (W' := fun q105_22 => (Zw (kE K) lt b c ms rd m1 P)) (rv := fun q105_22 => some (vI q105_22)) X dX6_way_105 rfl (fun a ha => c_X6_parts N lt b c ms rd m1 P q102_21 K.1.2.1 K.2.2.1.1 (kE K) a ha) (fun a => Zw_d _ _ _ _ _ _ _ _) gd_X6_113 rfl (n := 1) (by decide) rfl (by decide) (by simp [z_cat, z_catR, z_catI, z_catL]) (fun q105_22 eq105_22 => ?_)
    show Rn K _ 0 0 _ 108 [(0, .ref (kB K + 35)), (3, vI x3), (4, vI x4), (5, vI x5), (6, vI x6), (7, vI x7)] [vI q105_22, vI x7] (Zw (kE K) lt b c ms rd m1 P)
    refine r_ck1 (fun h23 => ?_)
    refine r_ck1 (fun h24 => ?_)
    refine r_icmp_ge (pc := 108) X h23 h24 dX6_way_108 (tgt := 176) (by decide) (fun h25 => ?_) (fun h25 => ?_)
    · refine r_sub [0, 1, 2, 3, 4] rfl ?_
      exact hk m1
    · refine r_aload_n (pc := 111) X 0 dX6_way_111 rfl rfl ?_
      refine r_get (pc := 112) (v := .ref (kB K + 42)) X 35 9 inX6 rfl rfl (by decide) tf_X6_28 rfl dX6_way_112 ?_
      refine r_iload (pc := 115) X 4 dX6_way_115 rfl ?_
      refine r_iald (pc := 117) (f := m1 9) X 42 h20 zl_3400 rfl dX6_way_117 ?_
      refine r_iload (pc := 118) X 5 dX6_way_118 rfl ?_
      refine r_callS (pc := 120) (As := [vI (m1 9 x6), vI x7]) (rest := []) (W' := fun q120_26 => (Zw (kE K) lt b c ms rd m1 P)) (rv := fun q120_26 => some (vI q120_26)) X dX6_way_120 rfl (fun a ha => c_X6_partOf N lt b c ms rd m1 P (m1 9 x6) x7 K.1.2.1 K.2.2.1.1 (kE K) a ha) (fun a => Zw_d _ _ _ _ _ _ _ _) gd_X6_106 rfl (n := 2) (by decide) rfl (by decide) (Nat.zero_le _) (fun q120_26 eq120_26 => ?_)
      show Rn K _ 0 0 _ 123 [(0, .ref (kB K + 35)), (3, vI x3), (4, vI x4), (5, vI x5), (6, vI x6), (7, vI x7)] [vI q120_26] (Zw (kE K) lt b c ms rd m1 P)
      refine r_istore (pc := 123) (lv' := [(0, .ref (kB K + 35)), (3, vI x3), (4, vI x4), (5, vI x5), (6, vI x6), (7, vI x7), (8, vI q120_26)]) X [1, 2, 3, 4, 5, 6, 0] dX6_way_123 (by decide) rfl ?_
      refine r_aload_n (pc := 125) X 0 dX6_way_125 rfl rfl ?_
      refine r_get (pc := 126) (v := .ref (kB K + 52)) X 35 21 inX6 rfl rfl (by decide) tf_X6_58 rfl dX6_way_126 ?_
      refine r_iload (pc := 129) X 6 dX6_way_129 rfl ?_
      refine r_aload_n (pc := 131) X 0 dX6_way_131 rfl rfl ?_
      refine r_get (pc := 132) (v := .ref (kB K + 52)) X 35 21 inX6 rfl rfl (by decide) tf_X6_58 rfl dX6_way_132 ?_
      refine r_iload (pc := 135) X 4 dX6_way_135 rfl ?_
      refine r_ckA (fun h27 => ?_)
      refine r_iald (pc := 137) (f := m1 21) X 52 h27 zl_6400 rfl dX6_way_137 ?_
      refine r_iconst (pc := 138) X 1 dX6_way_138 (by decide) ?_
      refine r_iadd (pc := 139) X dX6_way_139 ?_
      refine r_aload_n (pc := 140) X 0 dX6_way_140 rfl rfl ?_
      refine r_get (pc := 141) (v := .ref (kB K + 52)) X 35 21 inX6 rfl rfl (by decide) tf_X6_58 rfl dX6_way_141 ?_
      refine r_iload (pc := 144) X 6 dX6_way_144 rfl ?_
      refine r_ckA (fun h28 => ?_)
      refine r_iald (pc := 146) (f := m1 21) X 52 h28 zl_6400 rfl dX6_way_146 ?_
      refine r_ck1 (fun h29 => ?_)
      refine r_ck1 (fun h30 => ?_)
      refine r_icmp_ge (pc := 147) X h29 h30 dX6_way_147 (tgt := 162) (by decide) (fun h31 => ?_) (fun h31 => ?_)
      · refine r_aload_n (pc := 162) X 0 dX6_way_162 rfl rfl ?_
        refine r_get (pc := 163) (v := .ref (kB K + 52)) X 35 21 inX6 rfl rfl (by decide) tf_X6_58 rfl dX6_way_163 ?_
        refine r_iload (pc := 166) X 6 dX6_way_166 rfl ?_
        refine r_iald (pc := 168) (f := m1 21) X 52 h28 zl_6400 rfl dX6_way_168 ?_
        refine r_iast (pc := 169) (f := m1 21) (ws' := (Zw (kE K) lt b c ms rd (bS m1 21 (aS (m1 21) q120_26 (m1 21 q120_26))) P)) X 52 h28 zl_6400 rfl rfl dX6_way_169 ?_
        refine r_iinc (pc := 170) (lv' := [(0, .ref (kB K + 35)), (3, vI x3), (4, vI x4), (5, vI x5), (6, vI x6), (7, vI (x7 + 1)), (8, vI q120_26)]) X 5 [1, 2, 3, 4, 5, 0, 6] dX6_way_170 rfl (by decide) rfl ?_
        refine r_goto (pc := 173) X dX6_way_173 (tgt := 93) (by decide) ?_
        refine r_sub [0, 1, 2, 3, 4, 5] rfl ?_
        exact ih (x7 + 1) (bS m1 21 (aS (m1 21) q120_26 (m1 21 q120_26)))
      · refine r_aload_n (pc := 150) X 0 dX6_way_150 rfl rfl ?_
        refine r_get (pc := 151) (v := .ref (kB K + 52)) X 35 21 inX6 rfl rfl (by decide) tf_X6_58 rfl dX6_way_151 ?_
        refine r_iload (pc := 154) X 4 dX6_way_154 rfl ?_
        refine r_iald (pc := 156) (f := m1 21) X 52 h27 zl_6400 rfl dX6_way_156 ?_
        refine r_iconst (pc := 157) X 1 dX6_way_157 (by decide) ?_
        refine r_iadd (pc := 158) X dX6_way_158 ?_
        refine r_goto (pc := 159) X dX6_way_159 (tgt := 169) (by decide) ?_
        refine r_iast (pc := 169) (f := m1 21) (ws' := (Zw (kE K) lt b c ms rd (bS m1 21 (aS (m1 21) q120_26 ((m1 21 x6) + 1))) P)) X 52 h28 zl_6400 rfl rfl dX6_way_169 ?_
        refine r_iinc (pc := 170) (lv' := [(0, .ref (kB K + 35)), (3, vI x3), (4, vI x4), (5, vI x5), (6, vI x6), (7, vI (x7 + 1)), (8, vI q120_26)]) X 5 [1, 2, 3, 4, 5, 0, 6] dX6_way_170 rfl (by decide) rfl ?_
        refine r_goto (pc := 173) X dX6_way_173 (tgt := 93) (by decide) ?_
        refine r_sub [0, 1, 2, 3, 4, 5] rfl ?_
        exact ih (x7 + 1) (bS m1 21 (aS (m1 21) q120_26 ((m1 21 x6) + 1)))
set_option maxRecDepth 100000 in
set_option maxHeartbeats 4000000 in
theorem t_X6_way_L84 (N : Nat) (lt b c ms rd m : Bd) (P : PL) (x3 x4 x5 : Int) (K : KT) (X : Kok K cX6_way yX6_way.cls lw_g ({ frames := 5, cells := 0, slots := 0, locals := 116 } : Room) (some .int) 9) (k : Bd → Option (Int × Bd)) (hk : ∀ (m1 : Bd), Rn K (Q_X6_way K lt b c ms rd m P) 0 0 (k m1) 182 [(0, .ref (kB K + 35)), (3, vI x3), (4, vI x4), (5, vI x5)] [] (Zw (kE K) lt b c ms rd m1 P)) : ∀ (n : Nat) (x6 : Int) (m1 : Bd), Rn K (Q_X6_way K lt b c ms rd m P) 0 0 (f_X6_way_L84 N x3 x4 x5 k n x6 m1) 84 [(0, .ref (kB K + 35)), (3, vI x3), (4, vI x4), (5, vI x5), (6, vI x6)] [] (Zw (kE K) lt b c ms rd m1 P) := by
  intro n
  induction n with
  | zero =>
    intro x6 m1
    rw [f_X6_way_L84]
    exact r_none
  | succ n ih =>
    intro x6 m1
    rw [f_X6_way_L84]
    refine r_iload (pc := 84) X 4 dX6_way_84 rfl ?_
    refine r_iload_n (pc := 86) X 1 dX6_way_86 rfl rfl ?_
    refine r_ck1 (fun h17 => ?_)
    refine r_ck1 (fun h18 => ?_)
    refine r_icmp_ge (pc := 87) X h17 h18 dX6_way_87 (tgt := 182) (by decide) (fun h19 => ?_) (fun h19 => ?_)
    · refine r_sub [0, 1, 2, 3] rfl ?_
      exact hk m1
    · refine r_iconst (pc := 90) X 0 dX6_way_90 (by decide) ?_
      refine r_istore (pc := 91) (lv' := [(0, .ref (kB K + 35)), (3, vI x3), (4, vI x4), (5, vI x5), (6, vI x6), (7, vI 0)]) X [1, 2, 3, 4, 5, 0] dX6_way_91 (by decide) rfl ?_
      refine t_X6_way_L93 N lt b c ms rd m P  x3 x4 x5 x6 K X _ ?_ N 0 m1
      intro m_93
      refine r_iinc (pc := 176) (lv' := [(0, .ref (kB K + 35)), (3, vI x3), (4, vI x4), (5, vI x5), (6, vI (x6 + 1))]) X 4 [1, 2, 3, 4, 0] dX6_way_176 rfl (by decide) rfl ?_
      refine r_goto (pc := 179) X dX6_way_179 (tgt := 84) (by decide) ?_
      exact ih (x6 + 1) m_93
set_option maxRecDepth 100000 in
set_option maxHeartbeats 4000000 in
theorem t_X6_way_L74 (N : Nat) (lt b c ms rd m : Bd) (P : PL) (x3 x4 : Int) (K : KT) (X : Kok K cX6_way yX6_way.cls lw_g ({ frames := 5, cells := 0, slots := 0, locals := 116 } : Room) (some .int) 9) (k : Bd → Option (Int × Bd)) (hk : ∀ (m1 : Bd), Rn K (Q_X6_way K lt b c ms rd m P) 0 0 (k m1) 188 [(0, .ref (kB K + 35)), (3, vI x3), (4, vI x4)] [] (Zw (kE K) lt b c ms rd m1 P)) : ∀ (n : Nat) (x5 : Int) (m1 : Bd), Rn K (Q_X6_way K lt b c ms rd m P) 0 0 (f_X6_way_L74 N x3 x4 k n x5 m1) 74 [(0, .ref (kB K + 35)), (3, vI x3), (4, vI x4), (5, vI x5)] [] (Zw (kE K) lt b c ms rd m1 P) := by
  intro n
  induction n with
  | zero =>
    intro x5 m1
    rw [f_X6_way_L74]
    exact r_none
  | succ n ih =>
    intro x5 m1
    rw [f_X6_way_L74]
    refine r_iload (pc := 74) X 3 dX6_way_74 rfl ?_
    refine r_bipush (pc := 76) X 40 dX6_way_76 (by decide) ?_
    refine r_ck1 (fun h15 => ?_)
    refine r_icmp_ge (pc := 78) X h15 (by decide) dX6_way_78 (tgt := 188) (by decide) (fun h16 => ?_) (fun h16 => ?_)
    · refine r_sub [0, 1, 2] rfl ?_
      exact hk m1
    · refine r_iconst (pc := 81) X 0 dX6_way_81 (by decide) ?_
      refine r_istore (pc := 82) (lv' := [(0, .ref (kB K + 35)), (3, vI x3), (4, vI x4), (5, vI x5), (6, vI 0)]) X [1, 2, 3, 4, 0] dX6_way_82 (by decide) rfl ?_
      refine t_X6_way_L84 N lt b c ms rd m P  x3 x4 x5 K X _ ?_ N 0 m1
      intro m_84
      refine r_iinc (pc := 182) (lv' := [(0, .ref (kB K + 35)), (3, vI x3), (4, vI x4), (5, vI (x5 + 1))]) X 3 [1, 2, 3, 0] dX6_way_182 rfl (by decide) rfl ?_
      refine r_goto (pc := 185) X dX6_way_185 (tgt := 74) (by decide) ?_
      exact ih (x5 + 1) m_84
set_option maxRecDepth 100000 in
set_option maxHeartbeats 4000000 in
theorem t_X6_way_L194 (N : Nat) (lt b c ms rd m : Bd) (P : PL) (m1 : Bd) (x3 x4 : Int) (K : KT) (X : Kok K cX6_way yX6_way.cls lw_g ({ frames := 5, cells := 0, slots := 0, locals := 116 } : Room) (some .int) 9) (k : Int → Option (Int × Bd)) (hk : ∀ (x5 : Int), Rn K (Q_X6_way K lt b c ms rd m P) 0 0 (k x5) 232 [(5, vI x5)] [] (Zw (kE K) lt b c ms rd m1 P)) : ∀ (n : Nat) (x5 : Int) (x6 : Int), Rn K (Q_X6_way K lt b c ms rd m P) 0 0 (f_X6_way_L194 m1 x3 x4 k n x5 x6) 194 [(0, .ref (kB K + 35)), (3, vI x3), (4, vI x4), (5, vI x5), (6, vI x6)] [] (Zw (kE K) lt b c ms rd m1 P) := by
  intro n
  induction n with
  | zero =>
    intro x5 x6
    rw [f_X6_way_L194]
    exact r_none
  | succ n ih =>
    intro x5 x6
    rw [f_X6_way_L194]
    refine r_iload (pc := 194) X 4 dX6_way_194 rfl ?_
    refine r_iload_n (pc := 196) X 1 dX6_way_196 rfl rfl ?_
    refine r_ck1 (fun h32 => ?_)
    refine r_ck1 (fun h33 => ?_)
    refine r_icmp_ge (pc := 197) X h32 h33 dX6_way_197 (tgt := 232) (by decide) (fun h34 => ?_) (fun h34 => ?_)
    · refine r_sub [3] rfl ?_
      exact hk x5
    · refine r_aload_n (pc := 200) X 0 dX6_way_200 rfl rfl ?_
      refine r_get (pc := 201) (v := .ref (kB K + 45)) X 35 13 inX6 rfl rfl (by decide) tf_X6_37 rfl dX6_way_201 ?_
      refine r_iload (pc := 204) X 4 dX6_way_204 rfl ?_
      refine r_ckA (fun h35 => ?_)
      refine r_iald (pc := 206) (f := m1 13) X 45 h35 zl_3400 rfl dX6_way_206 ?_
      refine r_iload (pc := 207) X 2 dX6_way_207 rfl ?_
      refine r_ck1 (fun h36 => ?_)
      refine r_ck1 (fun h37 => ?_)
      refine r_icmp_ne (pc := 209) X h36 h37 dX6_way_209 (tgt := 222) (by decide) (fun h38 => ?_) (fun h38 => ?_)
      · refine r_iload (pc := 222) X 3 dX6_way_222 rfl ?_
        refine r_istore (pc := 224) (lv' := [(0, .ref (kB K + 35)), (3, vI x3), (4, vI x4), (5, vI x5), (6, vI x6)]) X [1, 2, 3, 0, 4] dX6_way_224 (by decide) rfl ?_
        refine r_iinc (pc := 226) (lv' := [(0, .ref (kB K + 35)), (3, vI x3), (4, vI x4), (5, vI x5), (6, vI (x6 + 1))]) X 4 [1, 2, 3, 4, 0] dX6_way_226 rfl (by decide) rfl ?_
        refine r_goto (pc := 229) X dX6_way_229 (tgt := 194) (by decide) ?_
        exact ih x5 (x6 + 1)
      · refine r_aload_n (pc := 212) X 0 dX6_way_212 rfl rfl ?_
        refine r_get (pc := 213) (v := .ref (kB K + 52)) X 35 21 inX6 rfl rfl (by decide) tf_X6_58 rfl dX6_way_213 ?_
        refine r_iload (pc := 216) X 4 dX6_way_216 rfl ?_
        refine r_ckA (fun h39 => ?_)
        refine r_iald (pc := 218) (f := m1 21) X 52 h39 zl_6400 rfl dX6_way_218 ?_
        refine r_goto (pc := 219) X dX6_way_219 (tgt := 224) (by decide) ?_
        refine r_istore (pc := 224) (lv' := [(0, .ref (kB K + 35)), (3, vI x3), (4, vI x4), (5, vI (m1 21 x6)), (6, vI x6)]) X [1, 2, 3, 0, 4] dX6_way_224 (by decide) rfl ?_
        refine r_iinc (pc := 226) (lv' := [(0, .ref (kB K + 35)), (3, vI x3), (4, vI x4), (5, vI (m1 21 x6)), (6, vI (x6 + 1))]) X 4 [1, 2, 3, 4, 0] dX6_way_226 rfl (by decide) rfl ?_
        refine r_goto (pc := 229) X dX6_way_229 (tgt := 194) (by decide) ?_
        exact ih (m1 21 x6) (x6 + 1)
set_option maxRecDepth 100000 in
set_option maxHeartbeats 4000000 in
theorem t_X6_way (N : Nat) (lt b c ms rd m : Bd) (P : PL) (x1 x2 : Int) (K : KT) (X : Kok K cX6_way yX6_way.cls lw_g ({ frames := 5, cells := 0, slots := 0, locals := 116 } : Room) (some .int) 9) : Rn K (Q_X6_way K lt b c ms rd m P) 0 0 (f_X6_way N m x1 x2) 0 [(0, .ref (kB K + 35)), (1, vI x1), (2, vI x2)] [] (Zw (kE K) lt b c ms rd m P) := by
  unfold f_X6_way
  refine r_aload_n (pc := 0) X 0 dX6_way_0 rfl rfl ?_
  refine r_iload_n (pc := 1) X 1 dX6_way_1 rfl rfl ?_
  refine r_callV (pc := 2) (q0 := 35) (ci := 6) (As := [vI x1]) (rest := []) (W' := fun q2_1 => (Zw (kE K) lt b c ms rd m P)) (rv := fun q2_1 => some (vI q2_1)) X dX6_way_2 rfl (fun a ha => c_X6_has N lt b c ms rd m P x1 K.1.2.1 K.2.2.1.1 (kE K) a ha) (fun a => Zw_d _ _ _ _ _ _ _ _) gd_X6_204 rfl (n := 1) (by decide) rfl (by decide) rfl rfl rfl (Nat.zero_le _) (fun q2_1 eq2_1 => ?_)
  show Rn K _ 0 0 _ 5 [(0, .ref (kB K + 35)), (1, vI x1), (2, vI x2)] [vI q2_1] (Zw (kE K) lt b c ms rd m P)
  refine r_jn (J := fun j16 => Rn K (Q_X6_way K lt b c ms rd m P) 0 0 j16 16 [(0, .ref (kB K + 35))] [] (Zw (kE K) lt b c ms rd m P)) ?_ (fun j16 hj16 => ?_)
  · skip
    refine r_aload_n (pc := 16) X 0 dX6_way_16 rfl rfl ?_
    refine r_bipush (pc := 17) X (-2) dX6_way_17 (by decide) ?_
    refine r_callV (pc := 19) (q0 := 35) (ci := 6) (As := [vI (-2)]) (rest := []) (W' := fun q19_2 => (Zw (kE K) lt b c ms rd q19_2.2 P)) (rv := fun q19_2 => some (vI q19_2.1)) X dX6_way_19 rfl (fun a ha => c_X6_refuses N lt b c ms rd m P (-2) K.1.2.1 K.2.2.1.1 (kE K) a ha) (fun a => Zw_d _ _ _ _ _ _ _ _) gd_X6_138 rfl (n := 1) (by decide) rfl (by decide) rfl rfl rfl (Nat.zero_le _) (fun q19_2 eq19_2 => ?_)
    show Rn K _ 0 0 _ 22 [(0, .ref (kB K + 35))] [vI q19_2.1] (Zw (kE K) lt b c ms rd q19_2.2 P)
    exact r_iret (pc := 22) X rfl rfl (by decide) dX6_way_22
  refine r_ck1 (fun h3 => ?_)
  refine r_ifeq (pc := 5) X h3 dX6_way_5 (tgt := 16) (by decide) (fun h4 => ?_) (fun h4 => ?_)
  · refine r_sub [0] rfl ?_
    exact hj16
  · refine r_aload_n (pc := 8) X 0 dX6_way_8 rfl rfl ?_
    refine r_iload_n (pc := 9) X 2 dX6_way_9 rfl rfl ?_
    refine r_callV (pc := 10) (q0 := 35) (ci := 6) (As := [vI x2]) (rest := []) (W' := fun q10_5 => (Zw (kE K) lt b c ms rd m P)) (rv := fun q10_5 => some (vI q10_5)) X dX6_way_10 rfl (fun a ha => c_X6_has N lt b c ms rd m P x2 K.1.2.1 K.2.2.1.1 (kE K) a ha) (fun a => Zw_d _ _ _ _ _ _ _ _) gd_X6_204 rfl (n := 1) (by decide) rfl (by decide) rfl rfl rfl (Nat.zero_le _) (fun q10_5 eq10_5 => ?_)
    show Rn K _ 0 0 _ 13 [(0, .ref (kB K + 35)), (1, vI x1), (2, vI x2)] [vI q10_5] (Zw (kE K) lt b c ms rd m P)
    refine r_ck1 (fun h6 => ?_)
    refine r_ifne (pc := 13) X h6 dX6_way_13 (tgt := 23) (by decide) (fun h7 => ?_) (fun h7 => ?_)
    · refine r_aload_n (pc := 23) X 0 dX6_way_23 rfl rfl ?_
      refine r_iload_n (pc := 24) X 1 dX6_way_24 rfl rfl ?_
      refine r_iload_n (pc := 25) X 2 dX6_way_25 rfl rfl ?_
      refine r_callV (pc := 26) (q0 := 35) (ci := 6) (As := [vI x1, vI x2]) (rest := []) (W' := fun q26_8 => (Zw (kE K) lt b c ms rd q26_8.2 P)) (rv := fun q26_8 => some (vI q26_8.1)) X dX6_way_26 rfl (fun a ha => c_X6_bothApart N lt b c ms rd m P x1 x2 K.1.2.1 K.2.2.1.1 (kE K) a ha) (fun a => Zw_d _ _ _ _ _ _ _ _) gd_X6_213 rfl (n := 2) (by decide) rfl (by decide) rfl rfl rfl (Nat.zero_le _) (fun q26_8 eq26_8 => ?_)
      show Rn K _ 0 0 _ 29 [(0, .ref (kB K + 35)), (1, vI x1), (2, vI x2)] [vI q26_8.1] (Zw (kE K) lt b c ms rd q26_8.2 P)
      refine r_istore_n (pc := 29) (lv' := [(0, .ref (kB K + 35)), (1, vI x1), (2, vI x2), (3, vI q26_8.1)]) X [1, 2, 3, 0] dX6_way_29 rfl (by decide) rfl ?_
      refine r_aload_n (pc := 30) X 0 dX6_way_30 rfl rfl ?_
      refine r_get (pc := 31) (v := .ref (kB K + 45)) X 35 13 inX6 rfl rfl (by decide) tf_X6_37 rfl dX6_way_31 ?_
      refine r_iload_n (pc := 34) X 3 dX6_way_34 rfl rfl ?_
      refine r_ckA (fun h9 => ?_)
      refine r_iald (pc := 35) (f := q26_8.2 13) X 45 h9 zl_3400 rfl dX6_way_35 ?_
      refine r_istore (pc := 36) (lv' := [(0, .ref (kB K + 35)), (1, vI x1), (2, vI x2), (3, vI q26_8.1), (4, vI (q26_8.2 13 q26_8.1))]) X [1, 2, 3, 4, 0] dX6_way_36 (by decide) rfl ?_
      refine r_iconst (pc := 38) X 0 dX6_way_38 (by decide) ?_
      refine r_istore (pc := 39) (lv' := [(0, .ref (kB K + 35)), (1, vI x1), (2, vI x2), (3, vI q26_8.1), (4, vI (q26_8.2 13 q26_8.1)), (5, vI 0)]) X [1, 2, 3, 4, 5, 0] dX6_way_39 (by decide) rfl ?_
      refine r_sub [0, 3, 4, 5] rfl ?_
      refine t_X6_way_L41 N lt b c ms rd m P  q26_8.1 (q26_8.2 13 q26_8.1) K X _ ?_ N 0 q26_8.2
      intro m_41
      refine r_iconst (pc := 71) X 0 dX6_way_71 (by decide) ?_
      refine r_istore (pc := 72) (lv' := [(0, .ref (kB K + 35)), (3, vI q26_8.1), (4, vI (q26_8.2 13 q26_8.1)), (5, vI 0)]) X [1, 2, 3, 0] dX6_way_72 (by decide) rfl ?_
      refine t_X6_way_L74 N lt b c ms rd m P  q26_8.1 (q26_8.2 13 q26_8.1) K X _ ?_ N 0 m_41
      intro m_74
      refine r_iconst (pc := 188) X (-1) dX6_way_188 (by decide) ?_
      refine r_istore (pc := 189) (lv' := [(0, .ref (kB K + 35)), (3, vI q26_8.1), (4, vI (q26_8.2 13 q26_8.1)), (5, vI (-1))]) X [1, 2, 3, 0] dX6_way_189 (by decide) rfl ?_
      refine r_iconst (pc := 191) X 0 dX6_way_191 (by decide) ?_
      refine r_istore (pc := 192) (lv' := [(0, .ref (kB K + 35)), (3, vI q26_8.1), (4, vI (q26_8.2 13 q26_8.1)), (5, vI (-1)), (6, vI 0)]) X [1, 2, 3, 4, 0] dX6_way_192 (by decide) rfl ?_
      refine t_X6_way_L194 N lt b c ms rd m P m_74 q26_8.1 (q26_8.2 13 q26_8.1) K X _ ?_ N (-1) 0
      intro x5_194
      refine r_iload (pc := 232) X 0 dX6_way_232 rfl ?_
      exact r_iret (pc := 234) X rfl rfl (by decide) dX6_way_234
    · refine r_sub [0] rfl ?_
      exact hj16
theorem c_X6_way (N : Nat) (lt b c ms rd m : Bd) (P : PL) (x1 x2 : Int) (l : Launch) (D : va_G) (E : ET) (a : Int × Bd) (ha : f_X6_way N m x1 x2 = some a) : Ct l yX6_way (Cond.code yX6_way cX6_way 9 (some .int) :: lw_g) ({ frames := 5, cells := 0, slots := 0, locals := 116 } : Room) D E [.ref (E.2.2.2 + 35), vI x1, vI x2] (Zw E lt b c ms rd m P) (Zw E lt b c ms rd a.2 P) (some (vI a.1)) :=
  ct_of (av := fun E => [.ref (E.2.2.2 + 35), vI x1, vI x2]) (W0 := fun E => Zw E lt b c ms rd m P) (W1 := fun E (a : Int × Bd) => Zw E lt b c ms rd a.2 P) (rw := fun E a => some (vI a.1)) (by decide) rfl (fun E => Zw_d E lt b c ms rd m P) (fun E => by simp [lg_sl, z_cat, z_catR, z_catI, z_catL]) (fun K X => r_lv (by simp [lv_args, z_cat, z_catR, z_catI, z_catL]) (t_X6_way N lt b c ms rd m P x1 x2 K X)) l D E a ha
abbrev Q_X6_size (K : KT) (lt b c ms rd m : Bd) (P : PL) : (Int × Bd) → State → Prop := Qm K ({ frames := 3, cells := 0, slots := 0, locals := 63 } : Room) (fun a : Int × Bd => Zw (kE K) lt b c ms rd a.2 P) (fun a => some (vI a.1))
set_option maxRecDepth 100000 in
set_option maxHeartbeats 4000000 in
theorem t_X6_size (N : Nat) (lt b c ms rd m : Bd) (P : PL) (x1 : Int) (K : KT) (X : Kok K cX6_size yX6_size.cls lw_g ({ frames := 3, cells := 0, slots := 0, locals := 63 } : Room) (some .int) 2) : Rn K (Q_X6_size K lt b c ms rd m P) 0 0 (f_X6_size m x1) 0 [(0, .ref (kB K + 35)), (1, vI x1)] [] (Zw (kE K) lt b c ms rd m P) := by
  unfold f_X6_size
  refine r_aload_n (pc := 0) X 0 dX6_size_0 rfl rfl ?_
  refine r_iload_n (pc := 1) X 1 dX6_size_1 rfl rfl ?_
  refine r_callV (pc := 2) (q0 := 35) (ci := 6) (As := [vI x1]) (rest := []) (W' := fun q2_1 => (Zw (kE K) lt b c ms rd m P)) (rv := fun q2_1 => some (vI q2_1)) X dX6_size_2 rfl (fun a ha => c_X6_has N lt b c ms rd m P x1 K.1.2.1 K.2.2.1.1 (kE K) a ha) (fun a => Zw_d _ _ _ _ _ _ _ _) gd_X6_204 rfl (n := 1) (by decide) rfl (by decide) rfl rfl rfl (Nat.zero_le _) (fun q2_1 eq2_1 => ?_)
  show Rn K _ 0 0 _ 5 [(0, .ref (kB K + 35)), (1, vI x1)] [vI q2_1] (Zw (kE K) lt b c ms rd m P)
  refine r_ck1 (fun h2 => ?_)
  refine r_ifeq (pc := 5) X h2 dX6_size_5 (tgt := 17) (by decide) (fun h3 => ?_) (fun h3 => ?_)
  · refine r_aload_n (pc := 17) X 0 dX6_size_17 rfl rfl ?_
    refine r_bipush (pc := 18) X (-2) dX6_size_18 (by decide) ?_
    refine r_callV (pc := 20) (q0 := 35) (ci := 6) (As := [vI (-2)]) (rest := []) (W' := fun q20_4 => (Zw (kE K) lt b c ms rd q20_4.2 P)) (rv := fun q20_4 => some (vI q20_4.1)) X dX6_size_20 rfl (fun a ha => c_X6_refuses N lt b c ms rd m P (-2) K.1.2.1 K.2.2.1.1 (kE K) a ha) (fun a => Zw_d _ _ _ _ _ _ _ _) gd_X6_138 rfl (n := 1) (by decide) rfl (by decide) rfl rfl rfl (Nat.zero_le _) (fun q20_4 eq20_4 => ?_)
    show Rn K _ 0 0 _ 23 [(0, .ref (kB K + 35)), (1, vI x1)] [vI q20_4.1] (Zw (kE K) lt b c ms rd q20_4.2 P)
    exact r_iret (pc := 23) X rfl rfl (by decide) dX6_size_23
  · refine r_aload_n (pc := 8) X 0 dX6_size_8 rfl rfl ?_
    refine r_get (pc := 9) (v := .ref (kB K + 36)) X 35 0 inX6 rfl rfl (by decide) tf_X6_7 rfl dX6_size_9 ?_
    refine r_iload_n (pc := 12) X 1 dX6_size_12 rfl rfl ?_
    refine r_ckA (fun h5 => ?_)
    refine r_iald (pc := 13) (f := m 0) X 36 h5 zl_8 rfl dX6_size_13 ?_
    refine r_goto (pc := 14) X dX6_size_14 (tgt := 23) (by decide) ?_
    exact r_iret (pc := 23) X rfl rfl (by decide) dX6_size_23
theorem c_X6_size (N : Nat) (lt b c ms rd m : Bd) (P : PL) (x1 : Int) (l : Launch) (D : va_G) (E : ET) (a : Int × Bd) (ha : f_X6_size m x1 = some a) : Ct l yX6_size (Cond.code yX6_size cX6_size 2 (some .int) :: lw_g) ({ frames := 3, cells := 0, slots := 0, locals := 63 } : Room) D E [.ref (E.2.2.2 + 35), vI x1] (Zw E lt b c ms rd m P) (Zw E lt b c ms rd a.2 P) (some (vI a.1)) :=
  ct_of (av := fun E => [.ref (E.2.2.2 + 35), vI x1]) (W0 := fun E => Zw E lt b c ms rd m P) (W1 := fun E (a : Int × Bd) => Zw E lt b c ms rd a.2 P) (rw := fun E a => some (vI a.1)) (by decide) rfl (fun E => Zw_d E lt b c ms rd m P) (fun E => by simp [lg_sl, z_cat, z_catR, z_catI, z_catL]) (fun K X => r_lv (by simp [lv_args, z_cat, z_catR, z_catI, z_catL]) (t_X6_size N lt b c ms rd m P x1 K X)) l D E a ha
abbrev Q_X6_nodeAt (K : KT) (lt b c ms rd m : Bd) (P : PL) : (Int) → State → Prop := Qm K ({ frames := 0, cells := 0, slots := 0, locals := 0 } : Room) (fun a : Int => Zw (kE K) lt b c ms rd m P) (fun a => some (vI a))
set_option maxRecDepth 100000 in
set_option maxHeartbeats 4000000 in
theorem t_X6_nodeAt (N : Nat) (lt b c ms rd m : Bd) (P : PL) (x1 x2 : Int) (K : KT) (X : Kok K cX6_nodeAt yX6_nodeAt.cls lw_g ({ frames := 0, cells := 0, slots := 0, locals := 0 } : Room) (some .int) 3) : Rn K (Q_X6_nodeAt K lt b c ms rd m P) 0 0 (f_X6_nodeAt m x1 x2) 0 [(0, .ref (kB K + 35)), (1, vI x1), (2, vI x2)] [] (Zw (kE K) lt b c ms rd m P) := by
  unfold f_X6_nodeAt
  refine r_aload_n (pc := 0) X 0 dX6_nodeAt_0 rfl rfl ?_
  refine r_get (pc := 1) (v := .ref (kB K + 37)) X 35 1 inX6 rfl rfl (by decide) tf_X6_13 rfl dX6_nodeAt_1 ?_
  refine r_bipush (pc := 4) X 40 dX6_nodeAt_4 (by decide) ?_
  refine r_iload_n (pc := 6) X 1 dX6_nodeAt_6 rfl rfl ?_
  refine r_imul (pc := 7) X dX6_nodeAt_7 ?_
  refine r_iload_n (pc := 8) X 2 dX6_nodeAt_8 rfl rfl ?_
  refine r_iadd (pc := 9) X dX6_nodeAt_9 ?_
  refine r_ckA (fun h1 => ?_)
  refine r_iald (pc := 10) (f := m 1) X 37 h1 zl_320 rfl dX6_nodeAt_10 ?_
  exact r_iret (pc := 11) X rfl rfl (by decide) dX6_nodeAt_11
theorem c_X6_nodeAt (N : Nat) (lt b c ms rd m : Bd) (P : PL) (x1 x2 : Int) (l : Launch) (D : va_G) (E : ET) (a : Int) (ha : f_X6_nodeAt m x1 x2 = some a) : Ct l yX6_nodeAt (Cond.code yX6_nodeAt cX6_nodeAt 3 (some .int) :: lw_g) ({ frames := 0, cells := 0, slots := 0, locals := 0 } : Room) D E [.ref (E.2.2.2 + 35), vI x1, vI x2] (Zw E lt b c ms rd m P) (Zw E lt b c ms rd m P) (some (vI a)) :=
  ct_of (av := fun E => [.ref (E.2.2.2 + 35), vI x1, vI x2]) (W0 := fun E => Zw E lt b c ms rd m P) (W1 := fun E (a : Int) => Zw E lt b c ms rd m P) (rw := fun E a => some (vI a)) (by decide) rfl (fun E => Zw_d E lt b c ms rd m P) (fun E => by simp [lg_sl, z_cat, z_catR, z_catI, z_catL]) (fun K X => r_lv (by simp [lv_args, z_cat, z_catR, z_catI, z_catL]) (t_X6_nodeAt N lt b c ms rd m P x1 x2 K X)) l D E a ha
abbrev Q_X6_head (K : KT) (lt b c ms rd m : Bd) (P : PL) : (Int × Bd) → State → Prop := Qm K ({ frames := 3, cells := 0, slots := 0, locals := 63 } : Room) (fun a : Int × Bd => Zw (kE K) lt b c ms rd a.2 P) (fun a => some (vI a.1))
set_option maxRecDepth 100000 in
set_option maxHeartbeats 4000000 in
theorem t_X6_head (N : Nat) (lt b c ms rd m : Bd) (P : PL) (x1 : Int) (K : KT) (X : Kok K cX6_head yX6_head.cls lw_g ({ frames := 3, cells := 0, slots := 0, locals := 63 } : Room) (some .int) 2) : Rn K (Q_X6_head K lt b c ms rd m P) 0 0 (f_X6_head m x1) 0 [(0, .ref (kB K + 35)), (1, vI x1)] [] (Zw (kE K) lt b c ms rd m P) := by
  unfold f_X6_head
  refine r_aload_n (pc := 0) X 0 dX6_head_0 rfl rfl ?_
  refine r_iload_n (pc := 1) X 1 dX6_head_1 rfl rfl ?_
  refine r_callV (pc := 2) (q0 := 35) (ci := 6) (As := [vI x1]) (rest := []) (W' := fun q2_1 => (Zw (kE K) lt b c ms rd m P)) (rv := fun q2_1 => some (vI q2_1)) X dX6_head_2 rfl (fun a ha => c_X6_has N lt b c ms rd m P x1 K.1.2.1 K.2.2.1.1 (kE K) a ha) (fun a => Zw_d _ _ _ _ _ _ _ _) gd_X6_204 rfl (n := 1) (by decide) rfl (by decide) rfl rfl rfl (Nat.zero_le _) (fun q2_1 eq2_1 => ?_)
  show Rn K _ 0 0 _ 5 [(0, .ref (kB K + 35)), (1, vI x1)] [vI q2_1] (Zw (kE K) lt b c ms rd m P)
  refine r_ck1 (fun h2 => ?_)
  refine r_ifeq (pc := 5) X h2 dX6_head_5 (tgt := 20) (by decide) (fun h3 => ?_) (fun h3 => ?_)
  · refine r_aload_n (pc := 20) X 0 dX6_head_20 rfl rfl ?_
    refine r_bipush (pc := 21) X (-2) dX6_head_21 (by decide) ?_
    refine r_callV (pc := 23) (q0 := 35) (ci := 6) (As := [vI (-2)]) (rest := []) (W' := fun q23_4 => (Zw (kE K) lt b c ms rd q23_4.2 P)) (rv := fun q23_4 => some (vI q23_4.1)) X dX6_head_23 rfl (fun a ha => c_X6_refuses N lt b c ms rd m P (-2) K.1.2.1 K.2.2.1.1 (kE K) a ha) (fun a => Zw_d _ _ _ _ _ _ _ _) gd_X6_138 rfl (n := 1) (by decide) rfl (by decide) rfl rfl rfl (Nat.zero_le _) (fun q23_4 eq23_4 => ?_)
    show Rn K _ 0 0 _ 26 [(0, .ref (kB K + 35)), (1, vI x1)] [vI q23_4.1] (Zw (kE K) lt b c ms rd q23_4.2 P)
    exact r_iret (pc := 26) X rfl rfl (by decide) dX6_head_26
  · refine r_aload_n (pc := 8) X 0 dX6_head_8 rfl rfl ?_
    refine r_iload_n (pc := 9) X 1 dX6_head_9 rfl rfl ?_
    refine r_iconst (pc := 10) X 0 dX6_head_10 (by decide) ?_
    refine r_callV (pc := 11) (q0 := 35) (ci := 6) (As := [vI x1, vI 0]) (rest := []) (W' := fun q11_5 => (Zw (kE K) lt b c ms rd m P)) (rv := fun q11_5 => some (vI q11_5)) X dX6_head_11 rfl (fun a ha => c_X6_nodeAt N lt b c ms rd m P x1 0 K.1.2.1 K.2.2.1.1 (kE K) a ha) (fun a => Zw_d _ _ _ _ _ _ _ _) gd_X6_216 rfl (n := 2) (by decide) rfl (by decide) rfl rfl rfl (Nat.zero_le _) (fun q11_5 eq11_5 => ?_)
    show Rn K _ 0 0 _ 14 [(0, .ref (kB K + 35)), (1, vI x1)] [vI q11_5] (Zw (kE K) lt b c ms rd m P)
    refine r_callS (pc := 14) (As := [vI q11_5]) (rest := []) (W' := fun q14_6 => (Zw (kE K) lt b c ms rd m P)) (rv := fun q14_6 => some (vI q14_6)) X dX6_head_14 rfl (fun a ha => c_X6_headOf N lt b c ms rd m P q11_5 K.1.2.1 K.2.2.1.1 (kE K) a ha) (fun a => Zw_d _ _ _ _ _ _ _ _) gd_X6_102 rfl (n := 1) (by decide) rfl (by decide) (Nat.zero_le _) (fun q14_6 eq14_6 => ?_)
    show Rn K _ 0 0 _ 17 [(0, .ref (kB K + 35)), (1, vI x1)] [vI q14_6] (Zw (kE K) lt b c ms rd m P)
    refine r_goto (pc := 17) X dX6_head_17 (tgt := 26) (by decide) ?_
    exact r_iret (pc := 26) X rfl rfl (by decide) dX6_head_26
theorem c_X6_head (N : Nat) (lt b c ms rd m : Bd) (P : PL) (x1 : Int) (l : Launch) (D : va_G) (E : ET) (a : Int × Bd) (ha : f_X6_head m x1 = some a) : Ct l yX6_head (Cond.code yX6_head cX6_head 2 (some .int) :: lw_g) ({ frames := 3, cells := 0, slots := 0, locals := 63 } : Room) D E [.ref (E.2.2.2 + 35), vI x1] (Zw E lt b c ms rd m P) (Zw E lt b c ms rd a.2 P) (some (vI a.1)) :=
  ct_of (av := fun E => [.ref (E.2.2.2 + 35), vI x1]) (W0 := fun E => Zw E lt b c ms rd m P) (W1 := fun E (a : Int × Bd) => Zw E lt b c ms rd a.2 P) (rw := fun E a => some (vI a.1)) (by decide) rfl (fun E => Zw_d E lt b c ms rd m P) (fun E => by simp [lg_sl, z_cat, z_catR, z_catI, z_catL]) (fun K X => r_lv (by simp [lv_args, z_cat, z_catR, z_catI, z_catL]) (t_X6_head N lt b c ms rd m P x1 K X)) l D E a ha
abbrev Q_X6_codeOf (K : KT) (lt b c ms rd m : Bd) (P : PL) : (Int) → State → Prop := Qm K ({ frames := 1, cells := 0, slots := 0, locals := 22 } : Room) (fun a : Int => Zw (kE K) lt b c ms rd m P) (fun a => some (vL a))
set_option maxRecDepth 100000 in
set_option maxHeartbeats 4000000 in
theorem t_X6_codeOf_L41 (N : Nat) (lt b c ms rd m : Bd) (P : PL) (x1 x4 x5 : Int) (K : KT) (X : Kok K cX6_codeOf yX6_codeOf.cls lw_g ({ frames := 1, cells := 0, slots := 0, locals := 22 } : Room) (some .long) 7) (k : Int → Option (Int)) (hk : ∀ (x2 : Int), Rn K (Q_X6_codeOf K lt b c ms rd m P) 0 0 (k x2) 75 [(0, .ref (kB K + 35)), (1, vI x1), (2, vL x2), (4, vI x4)] [] (Zw (kE K) lt b c ms rd m P)) : ∀ (n : Nat) (x2 : Int) (x6 : Int), Rn K (Q_X6_codeOf K lt b c ms rd m P) 0 0 (f_X6_codeOf_L41 x1 x4 x5 k n x2 x6) 41 [(0, .ref (kB K + 35)), (1, vI x1), (2, vL x2), (4, vI x4), (5, vI x5), (6, vI x6)] [] (Zw (kE K) lt b c ms rd m P) := by
  intro n
  induction n with
  | zero =>
    intro x2 x6
    rw [f_X6_codeOf_L41]
    exact r_none
  | succ n ih =>
    intro x2 x6
    rw [f_X6_codeOf_L41]
    refine r_iload (pc := 41) X 5 dX6_codeOf_41 rfl ?_
    refine r_iload (pc := 43) X 4 dX6_codeOf_43 rfl ?_
    refine r_callS (pc := 45) (As := [vI x5]) (rest := [vI x6]) (W' := fun q45_8 => (Zw (kE K) lt b c ms rd m P)) (rv := fun q45_8 => some (vI q45_8)) X dX6_codeOf_45 rfl (fun a ha => c_X6_headOf N lt b c ms rd m P x5 K.1.2.1 K.2.2.1.1 (kE K) a ha) (fun a => Zw_d _ _ _ _ _ _ _ _) gd_X6_102 rfl (n := 1) (by decide) rfl (by decide) (by simp [z_cat, z_catR, z_catI, z_catL]) (fun q45_8 eq45_8 => ?_)
    show Rn K _ 0 0 _ 48 [(0, .ref (kB K + 35)), (1, vI x1), (2, vL x2), (4, vI x4), (5, vI x5), (6, vI x6)] [vI q45_8, vI x6] (Zw (kE K) lt b c ms rd m P)
    refine r_callS (pc := 48) (As := [vI q45_8]) (rest := [vI x6]) (W' := fun q48_9 => (Zw (kE K) lt b c ms rd m P)) (rv := fun q48_9 => some (vI q48_9)) X dX6_codeOf_48 rfl (fun a ha => c_X6_parts N lt b c ms rd m P q45_8 K.1.2.1 K.2.2.1.1 (kE K) a ha) (fun a => Zw_d _ _ _ _ _ _ _ _) gd_X6_113 rfl (n := 1) (by decide) rfl (by decide) (by simp [z_cat, z_catR, z_catI, z_catL]) (fun q48_9 eq48_9 => ?_)
    show Rn K _ 0 0 _ 51 [(0, .ref (kB K + 35)), (1, vI x1), (2, vL x2), (4, vI x4), (5, vI x5), (6, vI x6)] [vI q48_9, vI x6] (Zw (kE K) lt b c ms rd m P)
    refine r_ck1 (fun h10 => ?_)
    refine r_ck1 (fun h11 => ?_)
    refine r_icmp_ge (pc := 51) X h10 h11 dX6_codeOf_51 (tgt := 75) (by decide) (fun h12 => ?_) (fun h12 => ?_)
    · refine r_sub [0, 1, 2, 3] rfl ?_
      exact hk x2
    · refine r_ldc2 (pc := 54) X 31 tk_X6_219 dX6_codeOf_54 ?_
      refine r_lload_n (pc := 57) X 2 dX6_codeOf_57 rfl rfl ?_
      refine r_lmul (pc := 58) X dX6_codeOf_58 ?_
      refine r_iload (pc := 59) X 4 dX6_codeOf_59 rfl ?_
      refine r_iload (pc := 61) X 5 dX6_codeOf_61 rfl ?_
      refine r_callS (pc := 63) (As := [vI x5, vI x6]) (rest := [vL (31 * x2)]) (W' := fun q63_13 => (Zw (kE K) lt b c ms rd m P)) (rv := fun q63_13 => some (vI q63_13)) X dX6_codeOf_63 rfl (fun a ha => c_X6_partOf N lt b c ms rd m P x5 x6 K.1.2.1 K.2.2.1.1 (kE K) a ha) (fun a => Zw_d _ _ _ _ _ _ _ _) gd_X6_106 rfl (n := 2) (by decide) rfl (by decide) (by simp [z_cat, z_catR, z_catI, z_catL]) (fun q63_13 eq63_13 => ?_)
      show Rn K _ 0 0 _ 66 [(0, .ref (kB K + 35)), (1, vI x1), (2, vL x2), (4, vI x4), (5, vI x5), (6, vI x6)] [vI q63_13, vL (31 * x2)] (Zw (kE K) lt b c ms rd m P)
      refine r_ck1 (fun h14 => ?_)
      refine r_i2l (pc := 66) X h14 dX6_codeOf_66 ?_
      refine r_ladd (pc := 67) X dX6_codeOf_67 ?_
      refine r_lstore_n (pc := 68) (lv' := [(0, .ref (kB K + 35)), (1, vI x1), (2, vL ((31 * x2) + q63_13)), (4, vI x4), (5, vI x5), (6, vI x6)]) X [1, 2, 0, 3, 4, 5] dX6_codeOf_68 rfl (by decide) rfl ?_
      refine r_iinc (pc := 69) (lv' := [(0, .ref (kB K + 35)), (1, vI x1), (2, vL ((31 * x2) + q63_13)), (4, vI x4), (5, vI x5), (6, vI (x6 + 1))]) X 5 [1, 2, 3, 4, 5, 0] dX6_codeOf_69 rfl (by decide) rfl ?_
      refine r_goto (pc := 72) X dX6_codeOf_72 (tgt := 41) (by decide) ?_
      exact ih ((31 * x2) + q63_13) (x6 + 1)
set_option maxRecDepth 100000 in
set_option maxHeartbeats 4000000 in
theorem t_X6_codeOf_L5 (N : Nat) (lt b c ms rd m : Bd) (P : PL) (x1 : Int) (K : KT) (X : Kok K cX6_codeOf yX6_codeOf.cls lw_g ({ frames := 1, cells := 0, slots := 0, locals := 22 } : Room) (some .long) 7) (k : Int → Option (Int)) (hk : ∀ (x2 : Int), Rn K (Q_X6_codeOf K lt b c ms rd m P) 0 0 (k x2) 81 [(2, vL x2)] [] (Zw (kE K) lt b c ms rd m P)) : ∀ (n : Nat) (x2 : Int) (x4 : Int), Rn K (Q_X6_codeOf K lt b c ms rd m P) 0 0 (f_X6_codeOf_L5 N m x1 k n x2 x4) 5 [(0, .ref (kB K + 35)), (1, vI x1), (2, vL x2), (4, vI x4)] [] (Zw (kE K) lt b c ms rd m P) := by
  intro n
  induction n with
  | zero =>
    intro x2 x4
    rw [f_X6_codeOf_L5]
    exact r_none
  | succ n ih =>
    intro x2 x4
    rw [f_X6_codeOf_L5]
    refine r_iload (pc := 5) X 3 dX6_codeOf_5 rfl ?_
    refine r_aload_n (pc := 7) X 0 dX6_codeOf_7 rfl rfl ?_
    refine r_get (pc := 8) (v := .ref (kB K + 36)) X 35 0 inX6 rfl rfl (by decide) tf_X6_7 rfl dX6_codeOf_8 ?_
    refine r_iload_n (pc := 11) X 1 dX6_codeOf_11 rfl rfl ?_
    refine r_ckA (fun h1 => ?_)
    refine r_iald (pc := 12) (f := m 0) X 36 h1 zl_8 rfl dX6_codeOf_12 ?_
    refine r_ck1 (fun h2 => ?_)
    refine r_ck1 (fun h3 => ?_)
    refine r_icmp_ge (pc := 13) X h2 h3 dX6_codeOf_13 (tgt := 81) (by decide) (fun h4 => ?_) (fun h4 => ?_)
    · refine r_sub [2] rfl ?_
      exact hk x2
    · refine r_aload_n (pc := 16) X 0 dX6_codeOf_16 rfl rfl ?_
      refine r_iload_n (pc := 17) X 1 dX6_codeOf_17 rfl rfl ?_
      refine r_iload (pc := 18) X 3 dX6_codeOf_18 rfl ?_
      refine r_callV (pc := 20) (q0 := 35) (ci := 6) (As := [vI x1, vI x4]) (rest := []) (W' := fun q20_5 => (Zw (kE K) lt b c ms rd m P)) (rv := fun q20_5 => some (vI q20_5)) X dX6_codeOf_20 rfl (fun a ha => c_X6_nodeAt N lt b c ms rd m P x1 x4 K.1.2.1 K.2.2.1.1 (kE K) a ha) (fun a => Zw_d _ _ _ _ _ _ _ _) gd_X6_216 rfl (n := 2) (by decide) rfl (by decide) rfl rfl rfl (Nat.zero_le _) (fun q20_5 eq20_5 => ?_)
      show Rn K _ 0 0 _ 23 [(0, .ref (kB K + 35)), (1, vI x1), (2, vL x2), (4, vI x4)] [vI q20_5] (Zw (kE K) lt b c ms rd m P)
      refine r_istore (pc := 23) (lv' := [(0, .ref (kB K + 35)), (1, vI x1), (2, vL x2), (4, vI x4), (5, vI q20_5)]) X [1, 2, 3, 4, 0] dX6_codeOf_23 (by decide) rfl ?_
      refine r_ldc2 (pc := 25) X 31 tk_X6_219 dX6_codeOf_25 ?_
      refine r_lload_n (pc := 28) X 2 dX6_codeOf_28 rfl rfl ?_
      refine r_lmul (pc := 29) X dX6_codeOf_29 ?_
      refine r_iload (pc := 30) X 4 dX6_codeOf_30 rfl ?_
      refine r_callS (pc := 32) (As := [vI q20_5]) (rest := [vL (31 * x2)]) (W' := fun q32_6 => (Zw (kE K) lt b c ms rd m P)) (rv := fun q32_6 => some (vI q32_6)) X dX6_codeOf_32 rfl (fun a ha => c_X6_headOf N lt b c ms rd m P q20_5 K.1.2.1 K.2.2.1.1 (kE K) a ha) (fun a => Zw_d _ _ _ _ _ _ _ _) gd_X6_102 rfl (n := 1) (by decide) rfl (by decide) (by simp [z_cat, z_catR, z_catI, z_catL]) (fun q32_6 eq32_6 => ?_)
      show Rn K _ 0 0 _ 35 [(0, .ref (kB K + 35)), (1, vI x1), (2, vL x2), (4, vI x4), (5, vI q20_5)] [vI q32_6, vL (31 * x2)] (Zw (kE K) lt b c ms rd m P)
      refine r_ck1 (fun h7 => ?_)
      refine r_i2l (pc := 35) X h7 dX6_codeOf_35 ?_
      refine r_ladd (pc := 36) X dX6_codeOf_36 ?_
      refine r_lstore_n (pc := 37) (lv' := [(0, .ref (kB K + 35)), (1, vI x1), (2, vL ((31 * x2) + q32_6)), (4, vI x4), (5, vI q20_5)]) X [1, 2, 0, 3, 4] dX6_codeOf_37 rfl (by decide) rfl ?_
      refine r_iconst (pc := 38) X 0 dX6_codeOf_38 (by decide) ?_
      refine r_istore (pc := 39) (lv' := [(0, .ref (kB K + 35)), (1, vI x1), (2, vL ((31 * x2) + q32_6)), (4, vI x4), (5, vI q20_5), (6, vI 0)]) X [1, 2, 3, 4, 5, 0] dX6_codeOf_39 (by decide) rfl ?_
      refine t_X6_codeOf_L41 N lt b c ms rd m P  x1 x4 q20_5 K X _ ?_ N ((31 * x2) + q32_6) 0
      intro x2_41
      refine r_iinc (pc := 75) (lv' := [(0, .ref (kB K + 35)), (1, vI x1), (2, vL x2_41), (4, vI (x4 + 1))]) X 3 [1, 2, 3, 0] dX6_codeOf_75 rfl (by decide) rfl ?_
      refine r_goto (pc := 78) X dX6_codeOf_78 (tgt := 5) (by decide) ?_
      exact ih x2_41 (x4 + 1)
set_option maxRecDepth 100000 in
set_option maxHeartbeats 4000000 in
theorem t_X6_codeOf (N : Nat) (lt b c ms rd m : Bd) (P : PL) (x1 : Int) (K : KT) (X : Kok K cX6_codeOf yX6_codeOf.cls lw_g ({ frames := 1, cells := 0, slots := 0, locals := 22 } : Room) (some .long) 7) : Rn K (Q_X6_codeOf K lt b c ms rd m P) 0 0 (f_X6_codeOf N m x1) 0 [(0, .ref (kB K + 35)), (1, vI x1)] [] (Zw (kE K) lt b c ms rd m P) := by
  unfold f_X6_codeOf
  refine r_lconst (pc := 0) X 1 dX6_codeOf_0 (by decide) ?_
  refine r_lstore_n (pc := 1) (lv' := [(0, .ref (kB K + 35)), (1, vI x1), (2, vL 1)]) X [1, 2, 0] dX6_codeOf_1 rfl (by decide) rfl ?_
  refine r_iconst (pc := 2) X 0 dX6_codeOf_2 (by decide) ?_
  refine r_istore (pc := 3) (lv' := [(0, .ref (kB K + 35)), (1, vI x1), (2, vL 1), (4, vI 0)]) X [1, 2, 3, 0] dX6_codeOf_3 (by decide) rfl ?_
  refine t_X6_codeOf_L5 N lt b c ms rd m P  x1 K X _ ?_ N 1 0
  intro x2_5
  refine r_lload_n (pc := 81) X 0 dX6_codeOf_81 rfl rfl ?_
  exact r_lret (pc := 82) X rfl rfl (by decide) dX6_codeOf_82
theorem c_X6_codeOf (N : Nat) (lt b c ms rd m : Bd) (P : PL) (x1 : Int) (l : Launch) (D : va_G) (E : ET) (a : Int) (ha : f_X6_codeOf N m x1 = some a) : Ct l yX6_codeOf (Cond.code yX6_codeOf cX6_codeOf 7 (some .long) :: lw_g) ({ frames := 1, cells := 0, slots := 0, locals := 22 } : Room) D E [.ref (E.2.2.2 + 35), vI x1] (Zw E lt b c ms rd m P) (Zw E lt b c ms rd m P) (some (vL a)) :=
  ct_of (av := fun E => [.ref (E.2.2.2 + 35), vI x1]) (W0 := fun E => Zw E lt b c ms rd m P) (W1 := fun E (a : Int) => Zw E lt b c ms rd m P) (rw := fun E a => some (vL a)) (by decide) rfl (fun E => Zw_d E lt b c ms rd m P) (fun E => by simp [lg_sl, z_cat, z_catR, z_catI, z_catL]) (fun K X => r_lv (by simp [lv_args, z_cat, z_catR, z_catI, z_catL]) (t_X6_codeOf N lt b c ms rd m P x1 K X)) l D E a ha
abbrev Q_X6_code (K : KT) (lt b c ms rd m : Bd) (P : PL) : (Int × Bd) → State → Prop := Qm K ({ frames := 3, cells := 0, slots := 0, locals := 63 } : Room) (fun a : Int × Bd => Zw (kE K) lt b c ms rd a.2 P) (fun a => some (vL a.1))
set_option maxRecDepth 100000 in
set_option maxHeartbeats 4000000 in
theorem t_X6_code (N : Nat) (lt b c ms rd m : Bd) (P : PL) (x1 : Int) (K : KT) (X : Kok K cX6_code yX6_code.cls lw_g ({ frames := 3, cells := 0, slots := 0, locals := 63 } : Room) (some .long) 2) : Rn K (Q_X6_code K lt b c ms rd m P) 0 0 (f_X6_code N m x1) 0 [(0, .ref (kB K + 35)), (1, vI x1)] [] (Zw (kE K) lt b c ms rd m P) := by
  unfold f_X6_code
  refine r_aload_n (pc := 0) X 0 dX6_code_0 rfl rfl ?_
  refine r_iload_n (pc := 1) X 1 dX6_code_1 rfl rfl ?_
  refine r_callV (pc := 2) (q0 := 35) (ci := 6) (As := [vI x1]) (rest := []) (W' := fun q2_1 => (Zw (kE K) lt b c ms rd m P)) (rv := fun q2_1 => some (vI q2_1)) X dX6_code_2 rfl (fun a ha => c_X6_has N lt b c ms rd m P x1 K.1.2.1 K.2.2.1.1 (kE K) a ha) (fun a => Zw_d _ _ _ _ _ _ _ _) gd_X6_204 rfl (n := 1) (by decide) rfl (by decide) rfl rfl rfl (Nat.zero_le _) (fun q2_1 eq2_1 => ?_)
  show Rn K _ 0 0 _ 5 [(0, .ref (kB K + 35)), (1, vI x1)] [vI q2_1] (Zw (kE K) lt b c ms rd m P)
  refine r_ck1 (fun h2 => ?_)
  refine r_ifeq (pc := 5) X h2 dX6_code_5 (tgt := 16) (by decide) (fun h3 => ?_) (fun h3 => ?_)
  · refine r_aload_n (pc := 16) X 0 dX6_code_16 rfl rfl ?_
    refine r_bipush (pc := 17) X (-2) dX6_code_17 (by decide) ?_
    refine r_callV (pc := 19) (q0 := 35) (ci := 6) (As := [vI (-2)]) (rest := []) (W' := fun q19_4 => (Zw (kE K) lt b c ms rd q19_4.2 P)) (rv := fun q19_4 => some (vI q19_4.1)) X dX6_code_19 rfl (fun a ha => c_X6_refuses N lt b c ms rd m P (-2) K.1.2.1 K.2.2.1.1 (kE K) a ha) (fun a => Zw_d _ _ _ _ _ _ _ _) gd_X6_138 rfl (n := 1) (by decide) rfl (by decide) rfl rfl rfl (Nat.zero_le _) (fun q19_4 eq19_4 => ?_)
    show Rn K _ 0 0 _ 22 [(0, .ref (kB K + 35)), (1, vI x1)] [vI q19_4.1] (Zw (kE K) lt b c ms rd q19_4.2 P)
    refine r_ck1 (fun h5 => ?_)
    refine r_i2l (pc := 22) X h5 dX6_code_22 ?_
    exact r_lret (pc := 23) X rfl rfl (by decide) dX6_code_23
  · refine r_aload_n (pc := 8) X 0 dX6_code_8 rfl rfl ?_
    refine r_iload_n (pc := 9) X 1 dX6_code_9 rfl rfl ?_
    refine r_callV (pc := 10) (q0 := 35) (ci := 6) (As := [vI x1]) (rest := []) (W' := fun q10_6 => (Zw (kE K) lt b c ms rd m P)) (rv := fun q10_6 => some (vL q10_6)) X dX6_code_10 rfl (fun a ha => c_X6_codeOf N lt b c ms rd m P x1 K.1.2.1 K.2.2.1.1 (kE K) a ha) (fun a => Zw_d _ _ _ _ _ _ _ _) gd_X6_221 rfl (n := 1) (by decide) rfl (by decide) rfl rfl rfl (Nat.zero_le _) (fun q10_6 eq10_6 => ?_)
    show Rn K _ 0 0 _ 13 [(0, .ref (kB K + 35)), (1, vI x1)] [vL q10_6] (Zw (kE K) lt b c ms rd m P)
    refine r_goto (pc := 13) X dX6_code_13 (tgt := 23) (by decide) ?_
    exact r_lret (pc := 23) X rfl rfl (by decide) dX6_code_23
theorem c_X6_code (N : Nat) (lt b c ms rd m : Bd) (P : PL) (x1 : Int) (l : Launch) (D : va_G) (E : ET) (a : Int × Bd) (ha : f_X6_code N m x1 = some a) : Ct l yX6_code (Cond.code yX6_code cX6_code 2 (some .long) :: lw_g) ({ frames := 3, cells := 0, slots := 0, locals := 63 } : Room) D E [.ref (E.2.2.2 + 35), vI x1] (Zw E lt b c ms rd m P) (Zw E lt b c ms rd a.2 P) (some (vL a.1)) :=
  ct_of (av := fun E => [.ref (E.2.2.2 + 35), vI x1]) (W0 := fun E => Zw E lt b c ms rd m P) (W1 := fun E (a : Int × Bd) => Zw E lt b c ms rd a.2 P) (rw := fun E a => some (vL a.1)) (by decide) rfl (fun E => Zw_d E lt b c ms rd m P) (fun E => by simp [lg_sl, z_cat, z_catR, z_catI, z_catL]) (fun K X => r_lv (by simp [lv_args, z_cat, z_catR, z_catI, z_catL]) (t_X6_code N lt b c ms rd m P x1 K X)) l D E a ha
abbrev Q_X6_climbs (K : KT) (lt b c ms rd m : Bd) (P : PL) : (Int × Bd) → State → Prop := Qm K ({ frames := 1, cells := 0, slots := 0, locals := 22 } : Room) (fun a : Int × Bd => Zw (kE K) lt b c ms rd a.2 P) (fun a => some (vL a.1))
set_option maxRecDepth 100000 in
set_option maxHeartbeats 4000000 in
theorem t_X6_climbs_L10 (N : Nat) (lt b c ms rd m : Bd) (P : PL) (x1 x2 x3 : Int) (K : KT) (X : Kok K cX6_climbs yX6_climbs.cls lw_g ({ frames := 1, cells := 0, slots := 0, locals := 22 } : Room) (some .long) 13) (k : Bd → Option (Int × Bd)) (hk : ∀ (m1 : Bd), Rn K (Q_X6_climbs K lt b c ms rd m P) 0 0 (k m1) 32 [(0, .ref (kB K + 35)), (1, vI x1), (2, vI x2), (3, vI x3)] [] (Zw (kE K) lt b c ms rd m1 P)) : ∀ (n : Nat) (x4 : Int) (m1 : Bd), Rn K (Q_X6_climbs K lt b c ms rd m P) 0 0 (f_X6_climbs_L10 x1 x2 x3 k n x4 m1) 10 [(0, .ref (kB K + 35)), (1, vI x1), (2, vI x2), (3, vI x3), (4, vI x4)] [] (Zw (kE K) lt b c ms rd m1 P) := by
  intro n
  induction n with
  | zero =>
    intro x4 m1
    rw [f_X6_climbs_L10]
    exact r_none
  | succ n ih =>
    intro x4 m1
    rw [f_X6_climbs_L10]
    refine r_iload (pc := 10) X 4 dX6_climbs_10 rfl ?_
    refine r_iload_n (pc := 12) X 3 dX6_climbs_12 rfl rfl ?_
    refine r_ck1 (fun h2 => ?_)
    refine r_ck1 (fun h3 => ?_)
    refine r_icmp_ge (pc := 13) X h2 h3 dX6_climbs_13 (tgt := 32) (by decide) (fun h4 => ?_) (fun h4 => ?_)
    · refine r_sub [0, 1, 2, 3] rfl ?_
      exact hk m1
    · refine r_aload_n (pc := 16) X 0 dX6_climbs_16 rfl rfl ?_
      refine r_get (pc := 17) (v := .ref (kB K + 60)) X 35 34 inX6 rfl rfl (by decide) tf_X6_82 rfl dX6_climbs_17 ?_
      refine r_iload (pc := 20) X 4 dX6_climbs_20 rfl ?_
      refine r_ldc2 (pc := 22) X (-1) tk_X6_225 dX6_climbs_22 ?_
      refine r_ckA (fun h5 => ?_)
      refine r_last (pc := 25) (f := m1 34) (ws' := (Zw (kE K) lt b c ms rd (bS m1 34 (aS (m1 34) x4 (-1))) P)) X 60 h5 zl_40 rfl rfl dX6_climbs_25 ?_
      refine r_iinc (pc := 26) (lv' := [(0, .ref (kB K + 35)), (1, vI x1), (2, vI x2), (3, vI x3), (4, vI (x4 + 1))]) X 4 [1, 2, 3, 4, 0] dX6_climbs_26 rfl (by decide) rfl ?_
      refine r_goto (pc := 29) X dX6_climbs_29 (tgt := 10) (by decide) ?_
      exact ih (x4 + 1) (bS m1 34 (aS (m1 34) x4 (-1)))
set_option maxRecDepth 100000 in
set_option maxHeartbeats 4000000 in
theorem t_X6_climbs_L76 (N : Nat) (lt b c ms rd m : Bd) (P : PL) (m1 : Bd) (x1 x2 x3 x4 x5 x6 : Int) (K : KT) (X : Kok K cX6_climbs yX6_climbs.cls lw_g ({ frames := 1, cells := 0, slots := 0, locals := 22 } : Room) (some .long) 13) (k : Int → Int → Option (Int × Bd)) (hk : ∀ (x7 : Int) (x8 : Int), Rn K (Q_X6_climbs K lt b c ms rd m P) 0 0 (k x7 x8) 161 [(0, .ref (kB K + 35)), (1, vI x1), (2, vI x2), (3, vI x3), (4, vI x4), (5, vI x5), (7, vI x7), (8, vL x8)] [] (Zw (kE K) lt b c ms rd m1 P)) : ∀ (n : Nat) (x7 : Int) (x8 : Int) (x10 : Int), Rn K (Q_X6_climbs K lt b c ms rd m P) 0 0 (f_X6_climbs_L76 m1 x1 x2 x3 x4 x5 x6 k n x7 x8 x10) 76 [(0, .ref (kB K + 35)), (1, vI x1), (2, vI x2), (3, vI x3), (4, vI x4), (5, vI x5), (6, vI x6), (7, vI x7), (8, vL x8), (10, vI x10)] [] (Zw (kE K) lt b c ms rd m1 P) := by
  intro n
  induction n with
  | zero =>
    intro x7 x8 x10
    rw [f_X6_climbs_L76]
    exact r_none
  | succ n ih =>
    intro x7 x8 x10
    rw [f_X6_climbs_L76]
    refine r_iload (pc := 76) X 9 dX6_climbs_76 rfl ?_
    refine r_iload (pc := 78) X 6 dX6_climbs_78 rfl ?_
    refine r_callS (pc := 80) (As := [vI x6]) (rest := [vI x10]) (W' := fun q80_13 => (Zw (kE K) lt b c ms rd m1 P)) (rv := fun q80_13 => some (vI q80_13)) X dX6_climbs_80 rfl (fun a ha => c_X6_headOf N lt b c ms rd m1 P x6 K.1.2.1 K.2.2.1.1 (kE K) a ha) (fun a => Zw_d _ _ _ _ _ _ _ _) gd_X6_102 rfl (n := 1) (by decide) rfl (by decide) (by simp [z_cat, z_catR, z_catI, z_catL]) (fun q80_13 eq80_13 => ?_)
    show Rn K _ 0 0 _ 83 [(0, .ref (kB K + 35)), (1, vI x1), (2, vI x2), (3, vI x3), (4, vI x4), (5, vI x5), (6, vI x6), (7, vI x7), (8, vL x8), (10, vI x10)] [vI q80_13, vI x10] (Zw (kE K) lt b c ms rd m1 P)
    refine r_callS (pc := 83) (As := [vI q80_13]) (rest := [vI x10]) (W' := fun q83_14 => (Zw (kE K) lt b c ms rd m1 P)) (rv := fun q83_14 => some (vI q83_14)) X dX6_climbs_83 rfl (fun a ha => c_X6_parts N lt b c ms rd m1 P q80_13 K.1.2.1 K.2.2.1.1 (kE K) a ha) (fun a => Zw_d _ _ _ _ _ _ _ _) gd_X6_113 rfl (n := 1) (by decide) rfl (by decide) (by simp [z_cat, z_catR, z_catI, z_catL]) (fun q83_14 eq83_14 => ?_)
    show Rn K _ 0 0 _ 86 [(0, .ref (kB K + 35)), (1, vI x1), (2, vI x2), (3, vI x3), (4, vI x4), (5, vI x5), (6, vI x6), (7, vI x7), (8, vL x8), (10, vI x10)] [vI q83_14, vI x10] (Zw (kE K) lt b c ms rd m1 P)
    refine r_ck1 (fun h15 => ?_)
    refine r_ck1 (fun h16 => ?_)
    refine r_icmp_ge (pc := 86) X h15 h16 dX6_climbs_86 (tgt := 161) (by decide) (fun h17 => ?_) (fun h17 => ?_)
    · refine r_sub [0, 1, 2, 3, 4, 5, 7, 8] rfl ?_
      exact hk x7 x8
    · refine r_aload_n (pc := 89) X 0 dX6_climbs_89 rfl rfl ?_
      refine r_get (pc := 90) (v := .ref (kB K + 60)) X 35 34 inX6 rfl rfl (by decide) tf_X6_82 rfl dX6_climbs_90 ?_
      refine r_iload (pc := 93) X 6 dX6_climbs_93 rfl ?_
      refine r_iload (pc := 95) X 9 dX6_climbs_95 rfl ?_
      refine r_callS (pc := 97) (As := [vI x6, vI x10]) (rest := [.ref (kB K + 60)]) (W' := fun q97_18 => (Zw (kE K) lt b c ms rd m1 P)) (rv := fun q97_18 => some (vI q97_18)) X dX6_climbs_97 rfl (fun a ha => c_X6_partOf N lt b c ms rd m1 P x6 x10 K.1.2.1 K.2.2.1.1 (kE K) a ha) (fun a => Zw_d _ _ _ _ _ _ _ _) gd_X6_106 rfl (n := 2) (by decide) rfl (by decide) (by simp [z_cat, z_catR, z_catI, z_catL]) (fun q97_18 eq97_18 => ?_)
      show Rn K _ 0 0 _ 100 [(0, .ref (kB K + 35)), (1, vI x1), (2, vI x2), (3, vI x3), (4, vI x4), (5, vI x5), (6, vI x6), (7, vI x7), (8, vL x8), (10, vI x10)] [vI q97_18, .ref (kB K + 60)] (Zw (kE K) lt b c ms rd m1 P)
      refine r_ckA (fun h19 => ?_)
      refine r_lald (pc := 100) (f := m1 34) X 60 h19 zl_40 rfl dX6_climbs_100 ?_
      refine r_lstore (pc := 101) (lv' := [(0, .ref (kB K + 35)), (1, vI x1), (2, vI x2), (3, vI x3), (4, vI x4), (5, vI x5), (6, vI x6), (7, vI x7), (8, vL x8), (10, vI x10), (11, vL (m1 34 q97_18))]) X [1, 2, 3, 4, 5, 6, 7, 8, 9, 10, 0] dX6_climbs_101 (by decide) rfl ?_
      refine r_iload (pc := 103) X 7 dX6_climbs_103 rfl ?_
      refine r_jn (J := fun j120 => ∀ (s0_120 : Int), Rn K (Q_X6_climbs K lt b c ms rd m P) 0 0 (j120 s0_120) 120 [(0, .ref (kB K + 35)), (1, vI x1), (2, vI x2), (3, vI x3), (4, vI x4), (5, vI x5), (6, vI x6), (8, vL x8), (10, vI x10), (11, vL (m1 34 q97_18))] [vI s0_120] (Zw (kE K) lt b c ms rd m1 P)) ?_ (fun j120 hj120 => ?_)
      · intro s0_120
        refine r_istore (pc := 120) (lv' := [(0, .ref (kB K + 35)), (1, vI x1), (2, vI x2), (3, vI x3), (4, vI x4), (5, vI x5), (6, vI x6), (7, vI s0_120), (8, vL x8), (10, vI x10), (11, vL (m1 34 q97_18))]) X [1, 2, 3, 4, 5, 6, 7, 0, 8, 9, 10] dX6_climbs_120 (by decide) rfl ?_
        refine r_iload_n (pc := 122) X 2 dX6_climbs_122 rfl rfl ?_
        refine r_ck1 (fun h20 => ?_)
        refine r_ifeq (pc := 123) X h20 dX6_climbs_123 (tgt := 134) (by decide) (fun h21 => ?_) (fun h21 => ?_)
        · refine r_lload (pc := 134) X 10 dX6_climbs_134 rfl ?_
          refine r_lconst (pc := 136) X 1 dX6_climbs_136 (by decide) ?_
          refine r_ladd (pc := 137) X dX6_climbs_137 ?_
          refine r_lload (pc := 138) X 8 dX6_climbs_138 rfl ?_
          refine r_ckL (fun h22 => ?_)
          refine r_ckL (fun h23 => ?_)
          refine r_lcmp (pc := 140) X h22 h23 dX6_climbs_140 ?_
          refine r_ck1 (fun h24 => ?_)
          refine r_ifle (pc := 141) X h24 dX6_climbs_141 (tgt := 151) (by decide) (fun h25 => ?_) (fun h25 => ?_)
          · refine r_lload (pc := 151) X 8 dX6_climbs_151 rfl ?_
            refine r_lstore (pc := 153) (lv' := [(0, .ref (kB K + 35)), (1, vI x1), (2, vI x2), (3, vI x3), (4, vI x4), (5, vI x5), (6, vI x6), (7, vI s0_120), (8, vL x8), (10, vI x10), (11, vL (m1 34 q97_18))]) X [1, 2, 3, 4, 5, 6, 7, 8, 0, 9, 10] dX6_climbs_153 (by decide) rfl ?_
            refine r_iinc (pc := 155) (lv' := [(0, .ref (kB K + 35)), (1, vI x1), (2, vI x2), (3, vI x3), (4, vI x4), (5, vI x5), (6, vI x6), (7, vI s0_120), (8, vL x8), (10, vI (x10 + 1)), (11, vL (m1 34 q97_18))]) X 9 [1, 2, 3, 4, 5, 6, 7, 8, 9, 0, 10] dX6_climbs_155 rfl (by decide) rfl ?_
            refine r_goto (pc := 158) X dX6_climbs_158 (tgt := 76) (by decide) ?_
            refine r_sub [0, 1, 2, 3, 4, 5, 6, 7, 8, 9] rfl ?_
            exact ih s0_120 x8 (x10 + 1)
          · refine r_lload (pc := 144) X 10 dX6_climbs_144 rfl ?_
            refine r_lconst (pc := 146) X 1 dX6_climbs_146 (by decide) ?_
            refine r_ladd (pc := 147) X dX6_climbs_147 ?_
            refine r_goto (pc := 148) X dX6_climbs_148 (tgt := 153) (by decide) ?_
            refine r_lstore (pc := 153) (lv' := [(0, .ref (kB K + 35)), (1, vI x1), (2, vI x2), (3, vI x3), (4, vI x4), (5, vI x5), (6, vI x6), (7, vI s0_120), (8, vL ((m1 34 q97_18) + 1)), (10, vI x10), (11, vL (m1 34 q97_18))]) X [1, 2, 3, 4, 5, 6, 7, 8, 0, 9, 10] dX6_climbs_153 (by decide) rfl ?_
            refine r_iinc (pc := 155) (lv' := [(0, .ref (kB K + 35)), (1, vI x1), (2, vI x2), (3, vI x3), (4, vI x4), (5, vI x5), (6, vI x6), (7, vI s0_120), (8, vL ((m1 34 q97_18) + 1)), (10, vI (x10 + 1)), (11, vL (m1 34 q97_18))]) X 9 [1, 2, 3, 4, 5, 6, 7, 8, 9, 0, 10] dX6_climbs_155 rfl (by decide) rfl ?_
            refine r_goto (pc := 158) X dX6_climbs_158 (tgt := 76) (by decide) ?_
            refine r_sub [0, 1, 2, 3, 4, 5, 6, 7, 8, 9] rfl ?_
            exact ih s0_120 ((m1 34 q97_18) + 1) (x10 + 1)
        · refine r_lload (pc := 126) X 8 dX6_climbs_126 rfl ?_
          refine r_lload (pc := 128) X 10 dX6_climbs_128 rfl ?_
          refine r_ladd (pc := 130) X dX6_climbs_130 ?_
          refine r_goto (pc := 131) X dX6_climbs_131 (tgt := 153) (by decide) ?_
          refine r_lstore (pc := 153) (lv' := [(0, .ref (kB K + 35)), (1, vI x1), (2, vI x2), (3, vI x3), (4, vI x4), (5, vI x5), (6, vI x6), (7, vI s0_120), (8, vL (x8 + (m1 34 q97_18))), (10, vI x10), (11, vL (m1 34 q97_18))]) X [1, 2, 3, 4, 5, 6, 7, 8, 0, 9, 10] dX6_climbs_153 (by decide) rfl ?_
          refine r_iinc (pc := 155) (lv' := [(0, .ref (kB K + 35)), (1, vI x1), (2, vI x2), (3, vI x3), (4, vI x4), (5, vI x5), (6, vI x6), (7, vI s0_120), (8, vL (x8 + (m1 34 q97_18))), (10, vI (x10 + 1)), (11, vL (m1 34 q97_18))]) X 9 [1, 2, 3, 4, 5, 6, 7, 8, 9, 0, 10] dX6_climbs_155 rfl (by decide) rfl ?_
          refine r_goto (pc := 158) X dX6_climbs_158 (tgt := 76) (by decide) ?_
          refine r_sub [0, 1, 2, 3, 4, 5, 6, 7, 8, 9] rfl ?_
          exact ih s0_120 (x8 + (m1 34 q97_18)) (x10 + 1)
      refine r_jn (J := fun j119 => Rn K (Q_X6_climbs K lt b c ms rd m P) 0 0 j119 119 [(0, .ref (kB K + 35)), (1, vI x1), (2, vI x2), (3, vI x3), (4, vI x4), (5, vI x5), (6, vI x6), (8, vL x8), (10, vI x10), (11, vL (m1 34 q97_18))] [] (Zw (kE K) lt b c ms rd m1 P)) ?_ (fun j119 hj119 => ?_)
      · skip
        refine r_iconst (pc := 119) X 0 dX6_climbs_119 (by decide) ?_
        exact hj120 0
      refine r_ck1 (fun h26 => ?_)
      refine r_ifeq (pc := 105) X h26 dX6_climbs_105 (tgt := 119) (by decide) (fun h27 => ?_) (fun h27 => ?_)
      · refine r_sub [0, 1, 2, 3, 4, 5, 6, 8, 9, 10] rfl ?_
        exact hj119
      · refine r_lload (pc := 108) X 10 dX6_climbs_108 rfl ?_
        refine r_lconst (pc := 110) X 0 dX6_climbs_110 (by decide) ?_
        refine r_ckL (fun h28 => ?_)
        refine r_lcmp (pc := 111) X h28 (by decide) dX6_climbs_111 ?_
        refine r_ck1 (fun h29 => ?_)
        refine r_iflt (pc := 112) X h29 dX6_climbs_112 (tgt := 119) (by decide) (fun h30 => ?_) (fun h30 => ?_)
        · refine r_sub [0, 1, 2, 3, 4, 5, 6, 8, 9, 10] rfl ?_
          exact hj119
        · refine r_iconst (pc := 115) X 1 dX6_climbs_115 (by decide) ?_
          refine r_goto (pc := 116) X dX6_climbs_116 (tgt := 120) (by decide) ?_
          refine r_sub [0, 1, 2, 3, 4, 5, 6, 8, 9, 10] rfl ?_
          exact hj120 1
set_option maxRecDepth 100000 in
set_option maxHeartbeats 4000000 in
theorem t_X6_climbs_L44 (N : Nat) (lt b c ms rd m : Bd) (P : PL) (x1 x2 x3 x4 : Int) (K : KT) (X : Kok K cX6_climbs yX6_climbs.cls lw_g ({ frames := 1, cells := 0, slots := 0, locals := 22 } : Room) (some .long) 13) (k : Bd → Option (Int × Bd)) (hk : ∀ (m1 : Bd), Rn K (Q_X6_climbs K lt b c ms rd m P) 0 0 (k m1) 202 [(0, .ref (kB K + 35)), (1, vI x1), (2, vI x2), (3, vI x3), (4, vI x4)] [] (Zw (kE K) lt b c ms rd m1 P)) : ∀ (n : Nat) (x5 : Int) (m1 : Bd), Rn K (Q_X6_climbs K lt b c ms rd m P) 0 0 (f_X6_climbs_L44 N x1 x2 x3 x4 k n x5 m1) 44 [(0, .ref (kB K + 35)), (1, vI x1), (2, vI x2), (3, vI x3), (4, vI x4), (5, vI x5)] [] (Zw (kE K) lt b c ms rd m1 P) := by
  intro n
  induction n with
  | zero =>
    intro x5 m1
    rw [f_X6_climbs_L44]
    exact r_none
  | succ n ih =>
    intro x5 m1
    rw [f_X6_climbs_L44]
    refine r_iload (pc := 44) X 5 dX6_climbs_44 rfl ?_
    refine r_iload_n (pc := 46) X 3 dX6_climbs_46 rfl rfl ?_
    refine r_ck1 (fun h9 => ?_)
    refine r_ck1 (fun h10 => ?_)
    refine r_icmp_ge (pc := 47) X h9 h10 dX6_climbs_47 (tgt := 202) (by decide) (fun h11 => ?_) (fun h11 => ?_)
    · refine r_sub [0, 1, 2, 3, 4] rfl ?_
      exact hk m1
    · refine r_aload_n (pc := 50) X 0 dX6_climbs_50 rfl rfl ?_
      refine r_iload_n (pc := 51) X 1 dX6_climbs_51 rfl rfl ?_
      refine r_iload (pc := 52) X 5 dX6_climbs_52 rfl ?_
      refine r_callV (pc := 54) (q0 := 35) (ci := 6) (As := [vI x1, vI x5]) (rest := []) (W' := fun q54_12 => (Zw (kE K) lt b c ms rd m1 P)) (rv := fun q54_12 => some (vI q54_12)) X dX6_climbs_54 rfl (fun a ha => c_X6_nodeAt N lt b c ms rd m1 P x1 x5 K.1.2.1 K.2.2.1.1 (kE K) a ha) (fun a => Zw_d _ _ _ _ _ _ _ _) gd_X6_216 rfl (n := 2) (by decide) rfl (by decide) rfl rfl rfl (Nat.zero_le _) (fun q54_12 eq54_12 => ?_)
      show Rn K _ 0 0 _ 57 [(0, .ref (kB K + 35)), (1, vI x1), (2, vI x2), (3, vI x3), (4, vI x4), (5, vI x5)] [vI q54_12] (Zw (kE K) lt b c ms rd m1 P)
      refine r_istore (pc := 57) (lv' := [(0, .ref (kB K + 35)), (1, vI x1), (2, vI x2), (3, vI x3), (4, vI x4), (5, vI x5), (6, vI q54_12)]) X [1, 2, 3, 4, 5, 6, 0] dX6_climbs_57 (by decide) rfl ?_
      refine r_iconst (pc := 59) X 1 dX6_climbs_59 (by decide) ?_
      refine r_istore (pc := 60) (lv' := [(0, .ref (kB K + 35)), (1, vI x1), (2, vI x2), (3, vI x3), (4, vI x4), (5, vI x5), (6, vI q54_12), (7, vI 1)]) X [1, 2, 3, 4, 5, 6, 7, 0] dX6_climbs_60 (by decide) rfl ?_
      refine r_iload_n (pc := 62) X 2 dX6_climbs_62 rfl rfl ?_
      refine r_jn (J := fun j71 => ∀ (s0_71 : Int), Rn K (Q_X6_climbs K lt b c ms rd m P) 0 0 (j71 s0_71) 71 [(0, .ref (kB K + 35)), (1, vI x1), (2, vI x2), (3, vI x3), (4, vI x4), (5, vI x5), (6, vI q54_12), (7, vI 1)] [vL s0_71] (Zw (kE K) lt b c ms rd m1 P)) ?_ (fun j71 hj71 => ?_)
      · intro s0_71
        refine r_lstore (pc := 71) (lv' := [(0, .ref (kB K + 35)), (1, vI x1), (2, vI x2), (3, vI x3), (4, vI x4), (5, vI x5), (6, vI q54_12), (7, vI 1), (8, vL s0_71)]) X [1, 2, 3, 4, 5, 6, 7, 8, 0] dX6_climbs_71 (by decide) rfl ?_
        refine r_iconst (pc := 73) X 0 dX6_climbs_73 (by decide) ?_
        refine r_istore (pc := 74) (lv' := [(0, .ref (kB K + 35)), (1, vI x1), (2, vI x2), (3, vI x3), (4, vI x4), (5, vI x5), (6, vI q54_12), (7, vI 1), (8, vL s0_71), (10, vI 0)]) X [1, 2, 3, 4, 5, 6, 7, 8, 9, 0] dX6_climbs_74 (by decide) rfl ?_
        refine t_X6_climbs_L76 N lt b c ms rd m P m1 x1 x2 x3 x4 x5 q54_12 K X _ ?_ N 1 s0_71 0
        intro x7_76 x8_76
        refine r_aload_n (pc := 161) X 0 dX6_climbs_161 rfl rfl ?_
        refine r_get (pc := 162) (v := .ref (kB K + 60)) X 35 34 inX6 rfl rfl (by decide) tf_X6_82 rfl dX6_climbs_162 ?_
        refine r_iload (pc := 165) X 5 dX6_climbs_165 rfl ?_
        refine r_iload (pc := 167) X 6 dX6_climbs_167 rfl ?_
        refine r_ck1 (fun h31 => ?_)
        refine r_ifne (pc := 169) X h31 dX6_climbs_169 (tgt := 178) (by decide) (fun h32 => ?_) (fun h32 => ?_)
        · refine r_lload (pc := 178) X 7 dX6_climbs_178 rfl ?_
          refine r_ldc2 (pc := 180) X 1000000 tk_X6_227 dX6_climbs_180 ?_
          refine r_ckL (fun h33 => ?_)
          refine r_lcmp (pc := 183) X h33 (by decide) dX6_climbs_183 ?_
          refine r_ck1 (fun h34 => ?_)
          refine r_ifle (pc := 184) X h34 dX6_climbs_184 (tgt := 193) (by decide) (fun h35 => ?_) (fun h35 => ?_)
          · refine r_lload (pc := 193) X 7 dX6_climbs_193 rfl ?_
            refine r_ckA (fun h36 => ?_)
            refine r_last (pc := 195) (f := m1 34) (ws' := (Zw (kE K) lt b c ms rd (bS m1 34 (aS (m1 34) x5 x8_76)) P)) X 60 h36 zl_40 rfl rfl dX6_climbs_195 ?_
            refine r_iinc (pc := 196) (lv' := [(0, .ref (kB K + 35)), (1, vI x1), (2, vI x2), (3, vI x3), (4, vI x4), (5, vI (x5 + 1)), (7, vI x7_76), (8, vL x8_76)]) X 5 [1, 2, 3, 4, 5, 0, 6, 7] dX6_climbs_196 rfl (by decide) rfl ?_
            refine r_goto (pc := 199) X dX6_climbs_199 (tgt := 44) (by decide) ?_
            refine r_sub [0, 1, 2, 3, 4, 5] rfl ?_
            exact ih (x5 + 1) (bS m1 34 (aS (m1 34) x5 x8_76))
          · refine r_ldc2 (pc := 187) X 1000000 tk_X6_227 dX6_climbs_187 ?_
            refine r_goto (pc := 190) X dX6_climbs_190 (tgt := 195) (by decide) ?_
            refine r_ckA (fun h37 => ?_)
            refine r_last (pc := 195) (f := m1 34) (ws' := (Zw (kE K) lt b c ms rd (bS m1 34 (aS (m1 34) x5 1000000)) P)) X 60 h37 zl_40 rfl rfl dX6_climbs_195 ?_
            refine r_iinc (pc := 196) (lv' := [(0, .ref (kB K + 35)), (1, vI x1), (2, vI x2), (3, vI x3), (4, vI x4), (5, vI (x5 + 1)), (7, vI x7_76), (8, vL x8_76)]) X 5 [1, 2, 3, 4, 5, 0, 6, 7] dX6_climbs_196 rfl (by decide) rfl ?_
            refine r_goto (pc := 199) X dX6_climbs_199 (tgt := 44) (by decide) ?_
            refine r_sub [0, 1, 2, 3, 4, 5] rfl ?_
            exact ih (x5 + 1) (bS m1 34 (aS (m1 34) x5 1000000))
        · refine r_ldc2 (pc := 172) X (-1) tk_X6_225 dX6_climbs_172 ?_
          refine r_goto (pc := 175) X dX6_climbs_175 (tgt := 195) (by decide) ?_
          refine r_ckA (fun h38 => ?_)
          refine r_last (pc := 195) (f := m1 34) (ws' := (Zw (kE K) lt b c ms rd (bS m1 34 (aS (m1 34) x5 (-1))) P)) X 60 h38 zl_40 rfl rfl dX6_climbs_195 ?_
          refine r_iinc (pc := 196) (lv' := [(0, .ref (kB K + 35)), (1, vI x1), (2, vI x2), (3, vI x3), (4, vI x4), (5, vI (x5 + 1)), (7, vI x7_76), (8, vL x8_76)]) X 5 [1, 2, 3, 4, 5, 0, 6, 7] dX6_climbs_196 rfl (by decide) rfl ?_
          refine r_goto (pc := 199) X dX6_climbs_199 (tgt := 44) (by decide) ?_
          refine r_sub [0, 1, 2, 3, 4, 5] rfl ?_
          exact ih (x5 + 1) (bS m1 34 (aS (m1 34) x5 (-1)))
      refine r_ck1 (fun h39 => ?_)
      refine r_ifeq (pc := 63) X h39 dX6_climbs_63 (tgt := 70) (by decide) (fun h40 => ?_) (fun h40 => ?_)
      · refine r_lconst (pc := 70) X 0 dX6_climbs_70 (by decide) ?_
        exact hj71 0
      · refine r_lconst (pc := 66) X 1 dX6_climbs_66 (by decide) ?_
        refine r_goto (pc := 67) X dX6_climbs_67 (tgt := 71) (by decide) ?_
        exact hj71 1
set_option maxRecDepth 100000 in
set_option maxHeartbeats 4000000 in
theorem t_X6_climbs_L35 (N : Nat) (lt b c ms rd m : Bd) (P : PL) (x1 x2 x3 : Int) (K : KT) (X : Kok K cX6_climbs yX6_climbs.cls lw_g ({ frames := 1, cells := 0, slots := 0, locals := 22 } : Room) (some .long) 13) (k : Bd → Option (Int × Bd)) (hk : ∀ (m1 : Bd), Rn K (Q_X6_climbs K lt b c ms rd m P) 0 0 (k m1) 208 [(0, .ref (kB K + 35))] [] (Zw (kE K) lt b c ms rd m1 P)) : ∀ (n : Nat) (x4 : Int) (m1 : Bd), Rn K (Q_X6_climbs K lt b c ms rd m P) 0 0 (f_X6_climbs_L35 N x1 x2 x3 k n x4 m1) 35 [(0, .ref (kB K + 35)), (1, vI x1), (2, vI x2), (3, vI x3), (4, vI x4)] [] (Zw (kE K) lt b c ms rd m1 P) := by
  intro n
  induction n with
  | zero =>
    intro x4 m1
    rw [f_X6_climbs_L35]
    exact r_none
  | succ n ih =>
    intro x4 m1
    rw [f_X6_climbs_L35]
    refine r_iload (pc := 35) X 4 dX6_climbs_35 rfl ?_
    refine r_iload_n (pc := 37) X 3 dX6_climbs_37 rfl rfl ?_
    refine r_ck1 (fun h6 => ?_)
    refine r_ck1 (fun h7 => ?_)
    refine r_icmp_ge (pc := 38) X h6 h7 dX6_climbs_38 (tgt := 208) (by decide) (fun h8 => ?_) (fun h8 => ?_)
    · refine r_sub [0] rfl ?_
      exact hk m1
    · refine r_iconst (pc := 41) X 0 dX6_climbs_41 (by decide) ?_
      refine r_istore (pc := 42) (lv' := [(0, .ref (kB K + 35)), (1, vI x1), (2, vI x2), (3, vI x3), (4, vI x4), (5, vI 0)]) X [1, 2, 3, 4, 5, 0] dX6_climbs_42 (by decide) rfl ?_
      refine t_X6_climbs_L44 N lt b c ms rd m P  x1 x2 x3 x4 K X _ ?_ N 0 m1
      intro m_44
      refine r_iinc (pc := 202) (lv' := [(0, .ref (kB K + 35)), (1, vI x1), (2, vI x2), (3, vI x3), (4, vI (x4 + 1))]) X 4 [1, 2, 3, 4, 0] dX6_climbs_202 rfl (by decide) rfl ?_
      refine r_goto (pc := 205) X dX6_climbs_205 (tgt := 35) (by decide) ?_
      exact ih (x4 + 1) m_44
set_option maxRecDepth 100000 in
set_option maxHeartbeats 4000000 in
theorem t_X6_climbs (N : Nat) (lt b c ms rd m : Bd) (P : PL) (x1 x2 : Int) (K : KT) (X : Kok K cX6_climbs yX6_climbs.cls lw_g ({ frames := 1, cells := 0, slots := 0, locals := 22 } : Room) (some .long) 13) : Rn K (Q_X6_climbs K lt b c ms rd m P) 0 0 (f_X6_climbs N m x1 x2) 0 [(0, .ref (kB K + 35)), (1, vI x1), (2, vI x2)] [] (Zw (kE K) lt b c ms rd m P) := by
  unfold f_X6_climbs
  refine r_aload_n (pc := 0) X 0 dX6_climbs_0 rfl rfl ?_
  refine r_get (pc := 1) (v := .ref (kB K + 36)) X 35 0 inX6 rfl rfl (by decide) tf_X6_7 rfl dX6_climbs_1 ?_
  refine r_iload_n (pc := 4) X 1 dX6_climbs_4 rfl rfl ?_
  refine r_ckA (fun h1 => ?_)
  refine r_iald (pc := 5) (f := m 0) X 36 h1 zl_8 rfl dX6_climbs_5 ?_
  refine r_istore_n (pc := 6) (lv' := [(0, .ref (kB K + 35)), (1, vI x1), (2, vI x2), (3, vI (m 0 x1))]) X [1, 2, 3, 0] dX6_climbs_6 rfl (by decide) rfl ?_
  refine r_iconst (pc := 7) X 0 dX6_climbs_7 (by decide) ?_
  refine r_istore (pc := 8) (lv' := [(0, .ref (kB K + 35)), (1, vI x1), (2, vI x2), (3, vI (m 0 x1)), (4, vI 0)]) X [1, 2, 3, 4, 0] dX6_climbs_8 (by decide) rfl ?_
  refine t_X6_climbs_L10 N lt b c ms rd m P  x1 x2 (m 0 x1) K X _ ?_ N 0 m
  intro m_10
  refine r_iconst (pc := 32) X 0 dX6_climbs_32 (by decide) ?_
  refine r_istore (pc := 33) (lv' := [(0, .ref (kB K + 35)), (1, vI x1), (2, vI x2), (3, vI (m 0 x1)), (4, vI 0)]) X [1, 2, 3, 4, 0] dX6_climbs_33 (by decide) rfl ?_
  refine t_X6_climbs_L35 N lt b c ms rd m P  x1 x2 (m 0 x1) K X _ ?_ N 0 m_10
  intro m_35
  refine r_aload_n (pc := 208) X 0 dX6_climbs_208 rfl rfl ?_
  refine r_get (pc := 209) (v := .ref (kB K + 60)) X 35 34 inX6 rfl rfl (by decide) tf_X6_82 rfl dX6_climbs_209 ?_
  refine r_iconst (pc := 212) X 0 dX6_climbs_212 (by decide) ?_
  refine r_lald (pc := 213) (f := m_35 34) X 60 (by decide) zl_40 rfl dX6_climbs_213 ?_
  exact r_lret (pc := 214) X rfl rfl (by decide) dX6_climbs_214
theorem c_X6_climbs (N : Nat) (lt b c ms rd m : Bd) (P : PL) (x1 x2 : Int) (l : Launch) (D : va_G) (E : ET) (a : Int × Bd) (ha : f_X6_climbs N m x1 x2 = some a) : Ct l yX6_climbs (Cond.code yX6_climbs cX6_climbs 13 (some .long) :: lw_g) ({ frames := 1, cells := 0, slots := 0, locals := 22 } : Room) D E [.ref (E.2.2.2 + 35), vI x1, vI x2] (Zw E lt b c ms rd m P) (Zw E lt b c ms rd a.2 P) (some (vL a.1)) :=
  ct_of (av := fun E => [.ref (E.2.2.2 + 35), vI x1, vI x2]) (W0 := fun E => Zw E lt b c ms rd m P) (W1 := fun E (a : Int × Bd) => Zw E lt b c ms rd a.2 P) (rw := fun E a => some (vL a.1)) (by decide) rfl (fun E => Zw_d E lt b c ms rd m P) (fun E => by simp [lg_sl, z_cat, z_catR, z_catI, z_catL]) (fun K X => r_lv (by simp [lv_args, z_cat, z_catR, z_catI, z_catL]) (t_X6_climbs N lt b c ms rd m P x1 x2 K X)) l D E a ha
abbrev Q_X6_deep (K : KT) (lt b c ms rd m : Bd) (P : PL) : (Int × Bd) → State → Prop := Qm K ({ frames := 3, cells := 0, slots := 0, locals := 63 } : Room) (fun a : Int × Bd => Zw (kE K) lt b c ms rd a.2 P) (fun a => some (vI a.1))
set_option maxRecDepth 100000 in
set_option maxHeartbeats 4000000 in
theorem t_X6_deep (N : Nat) (lt b c ms rd m : Bd) (P : PL) (x1 : Int) (K : KT) (X : Kok K cX6_deep yX6_deep.cls lw_g ({ frames := 3, cells := 0, slots := 0, locals := 63 } : Room) (some .int) 2) : Rn K (Q_X6_deep K lt b c ms rd m P) 0 0 (f_X6_deep N m x1) 0 [(0, .ref (kB K + 35)), (1, vI x1)] [] (Zw (kE K) lt b c ms rd m P) := by
  unfold f_X6_deep
  refine r_aload_n (pc := 0) X 0 dX6_deep_0 rfl rfl ?_
  refine r_iload_n (pc := 1) X 1 dX6_deep_1 rfl rfl ?_
  refine r_callV (pc := 2) (q0 := 35) (ci := 6) (As := [vI x1]) (rest := []) (W' := fun q2_1 => (Zw (kE K) lt b c ms rd m P)) (rv := fun q2_1 => some (vI q2_1)) X dX6_deep_2 rfl (fun a ha => c_X6_has N lt b c ms rd m P x1 K.1.2.1 K.2.2.1.1 (kE K) a ha) (fun a => Zw_d _ _ _ _ _ _ _ _) gd_X6_204 rfl (n := 1) (by decide) rfl (by decide) rfl rfl rfl (Nat.zero_le _) (fun q2_1 eq2_1 => ?_)
  show Rn K _ 0 0 _ 5 [(0, .ref (kB K + 35)), (1, vI x1)] [vI q2_1] (Zw (kE K) lt b c ms rd m P)
  refine r_ck1 (fun h2 => ?_)
  refine r_ifeq (pc := 5) X h2 dX6_deep_5 (tgt := 18) (by decide) (fun h3 => ?_) (fun h3 => ?_)
  · refine r_aload_n (pc := 18) X 0 dX6_deep_18 rfl rfl ?_
    refine r_bipush (pc := 19) X (-2) dX6_deep_19 (by decide) ?_
    refine r_callV (pc := 21) (q0 := 35) (ci := 6) (As := [vI (-2)]) (rest := []) (W' := fun q21_4 => (Zw (kE K) lt b c ms rd q21_4.2 P)) (rv := fun q21_4 => some (vI q21_4.1)) X dX6_deep_21 rfl (fun a ha => c_X6_refuses N lt b c ms rd m P (-2) K.1.2.1 K.2.2.1.1 (kE K) a ha) (fun a => Zw_d _ _ _ _ _ _ _ _) gd_X6_138 rfl (n := 1) (by decide) rfl (by decide) rfl rfl rfl (Nat.zero_le _) (fun q21_4 eq21_4 => ?_)
    show Rn K _ 0 0 _ 24 [(0, .ref (kB K + 35)), (1, vI x1)] [vI q21_4.1] (Zw (kE K) lt b c ms rd q21_4.2 P)
    exact r_iret (pc := 24) X rfl rfl (by decide) dX6_deep_24
  · refine r_aload_n (pc := 8) X 0 dX6_deep_8 rfl rfl ?_
    refine r_iload_n (pc := 9) X 1 dX6_deep_9 rfl rfl ?_
    refine r_iconst (pc := 10) X 0 dX6_deep_10 (by decide) ?_
    refine r_callV (pc := 11) (q0 := 35) (ci := 6) (As := [vI x1, vI 0]) (rest := []) (W' := fun q11_5 => (Zw (kE K) lt b c ms rd q11_5.2 P)) (rv := fun q11_5 => some (vL q11_5.1)) X dX6_deep_11 rfl (fun a ha => c_X6_climbs N lt b c ms rd m P x1 0 K.1.2.1 K.2.2.1.1 (kE K) a ha) (fun a => Zw_d _ _ _ _ _ _ _ _) gd_X6_229 rfl (n := 2) (by decide) rfl (by decide) rfl rfl rfl (Nat.zero_le _) (fun q11_5 eq11_5 => ?_)
    show Rn K _ 0 0 _ 14 [(0, .ref (kB K + 35)), (1, vI x1)] [vL q11_5.1] (Zw (kE K) lt b c ms rd q11_5.2 P)
    refine r_l2i (pc := 14) X dX6_deep_14 ?_
    refine r_goto (pc := 15) X dX6_deep_15 (tgt := 24) (by decide) ?_
    exact r_iret (pc := 24) X rfl rfl (by decide) dX6_deep_24
theorem c_X6_deep (N : Nat) (lt b c ms rd m : Bd) (P : PL) (x1 : Int) (l : Launch) (D : va_G) (E : ET) (a : Int × Bd) (ha : f_X6_deep N m x1 = some a) : Ct l yX6_deep (Cond.code yX6_deep cX6_deep 2 (some .int) :: lw_g) ({ frames := 3, cells := 0, slots := 0, locals := 63 } : Room) D E [.ref (E.2.2.2 + 35), vI x1] (Zw E lt b c ms rd m P) (Zw E lt b c ms rd a.2 P) (some (vI a.1)) :=
  ct_of (av := fun E => [.ref (E.2.2.2 + 35), vI x1]) (W0 := fun E => Zw E lt b c ms rd m P) (W1 := fun E (a : Int × Bd) => Zw E lt b c ms rd a.2 P) (rw := fun E a => some (vI a.1)) (by decide) rfl (fun E => Zw_d E lt b c ms rd m P) (fun E => by simp [lg_sl, z_cat, z_catR, z_catI, z_catL]) (fun K X => r_lv (by simp [lv_args, z_cat, z_catR, z_catI, z_catL]) (t_X6_deep N lt b c ms rd m P x1 K X)) l D E a ha
abbrev Q_X6_heads (K : KT) (lt b c ms rd m : Bd) (P : PL) : (Int × Bd) → State → Prop := Qm K ({ frames := 3, cells := 0, slots := 0, locals := 63 } : Room) (fun a : Int × Bd => Zw (kE K) lt b c ms rd a.2 P) (fun a => some (vI a.1))
set_option maxRecDepth 100000 in
set_option maxHeartbeats 4000000 in
theorem t_X6_heads (N : Nat) (lt b c ms rd m : Bd) (P : PL) (x1 : Int) (K : KT) (X : Kok K cX6_heads yX6_heads.cls lw_g ({ frames := 3, cells := 0, slots := 0, locals := 63 } : Room) (some .int) 2) : Rn K (Q_X6_heads K lt b c ms rd m P) 0 0 (f_X6_heads N m x1) 0 [(0, .ref (kB K + 35)), (1, vI x1)] [] (Zw (kE K) lt b c ms rd m P) := by
  unfold f_X6_heads
  refine r_aload_n (pc := 0) X 0 dX6_heads_0 rfl rfl ?_
  refine r_iload_n (pc := 1) X 1 dX6_heads_1 rfl rfl ?_
  refine r_callV (pc := 2) (q0 := 35) (ci := 6) (As := [vI x1]) (rest := []) (W' := fun q2_1 => (Zw (kE K) lt b c ms rd m P)) (rv := fun q2_1 => some (vI q2_1)) X dX6_heads_2 rfl (fun a ha => c_X6_has N lt b c ms rd m P x1 K.1.2.1 K.2.2.1.1 (kE K) a ha) (fun a => Zw_d _ _ _ _ _ _ _ _) gd_X6_204 rfl (n := 1) (by decide) rfl (by decide) rfl rfl rfl (Nat.zero_le _) (fun q2_1 eq2_1 => ?_)
  show Rn K _ 0 0 _ 5 [(0, .ref (kB K + 35)), (1, vI x1)] [vI q2_1] (Zw (kE K) lt b c ms rd m P)
  refine r_ck1 (fun h2 => ?_)
  refine r_ifeq (pc := 5) X h2 dX6_heads_5 (tgt := 18) (by decide) (fun h3 => ?_) (fun h3 => ?_)
  · refine r_aload_n (pc := 18) X 0 dX6_heads_18 rfl rfl ?_
    refine r_bipush (pc := 19) X (-2) dX6_heads_19 (by decide) ?_
    refine r_callV (pc := 21) (q0 := 35) (ci := 6) (As := [vI (-2)]) (rest := []) (W' := fun q21_4 => (Zw (kE K) lt b c ms rd q21_4.2 P)) (rv := fun q21_4 => some (vI q21_4.1)) X dX6_heads_21 rfl (fun a ha => c_X6_refuses N lt b c ms rd m P (-2) K.1.2.1 K.2.2.1.1 (kE K) a ha) (fun a => Zw_d _ _ _ _ _ _ _ _) gd_X6_138 rfl (n := 1) (by decide) rfl (by decide) rfl rfl rfl (Nat.zero_le _) (fun q21_4 eq21_4 => ?_)
    show Rn K _ 0 0 _ 24 [(0, .ref (kB K + 35)), (1, vI x1)] [vI q21_4.1] (Zw (kE K) lt b c ms rd q21_4.2 P)
    exact r_iret (pc := 24) X rfl rfl (by decide) dX6_heads_24
  · refine r_aload_n (pc := 8) X 0 dX6_heads_8 rfl rfl ?_
    refine r_iload_n (pc := 9) X 1 dX6_heads_9 rfl rfl ?_
    refine r_iconst (pc := 10) X 1 dX6_heads_10 (by decide) ?_
    refine r_callV (pc := 11) (q0 := 35) (ci := 6) (As := [vI x1, vI 1]) (rest := []) (W' := fun q11_5 => (Zw (kE K) lt b c ms rd q11_5.2 P)) (rv := fun q11_5 => some (vL q11_5.1)) X dX6_heads_11 rfl (fun a ha => c_X6_climbs N lt b c ms rd m P x1 1 K.1.2.1 K.2.2.1.1 (kE K) a ha) (fun a => Zw_d _ _ _ _ _ _ _ _) gd_X6_229 rfl (n := 2) (by decide) rfl (by decide) rfl rfl rfl (Nat.zero_le _) (fun q11_5 eq11_5 => ?_)
    show Rn K _ 0 0 _ 14 [(0, .ref (kB K + 35)), (1, vI x1)] [vL q11_5.1] (Zw (kE K) lt b c ms rd q11_5.2 P)
    refine r_l2i (pc := 14) X dX6_heads_14 ?_
    refine r_goto (pc := 15) X dX6_heads_15 (tgt := 24) (by decide) ?_
    exact r_iret (pc := 24) X rfl rfl (by decide) dX6_heads_24
theorem c_X6_heads (N : Nat) (lt b c ms rd m : Bd) (P : PL) (x1 : Int) (l : Launch) (D : va_G) (E : ET) (a : Int × Bd) (ha : f_X6_heads N m x1 = some a) : Ct l yX6_heads (Cond.code yX6_heads cX6_heads 2 (some .int) :: lw_g) ({ frames := 3, cells := 0, slots := 0, locals := 63 } : Room) D E [.ref (E.2.2.2 + 35), vI x1] (Zw E lt b c ms rd m P) (Zw E lt b c ms rd a.2 P) (some (vI a.1)) :=
  ct_of (av := fun E => [.ref (E.2.2.2 + 35), vI x1]) (W0 := fun E => Zw E lt b c ms rd m P) (W1 := fun E (a : Int × Bd) => Zw E lt b c ms rd a.2 P) (rw := fun E a => some (vI a.1)) (by decide) rfl (fun E => Zw_d E lt b c ms rd m P) (fun E => by simp [lg_sl, z_cat, z_catR, z_catI, z_catL]) (fun K X => r_lv (by simp [lv_args, z_cat, z_catR, z_catI, z_catL]) (t_X6_heads N lt b c ms rd m P x1 K X)) l D E a ha
abbrev Q_X6_many (K : KT) (lt b c ms rd m : Bd) (P : PL) : (Int × Bd) → State → Prop := Qm K ({ frames := 3, cells := 0, slots := 0, locals := 63 } : Room) (fun a : Int × Bd => Zw (kE K) lt b c ms rd a.2 P) (fun a => some (vI a.1))
set_option maxRecDepth 100000 in
set_option maxHeartbeats 4000000 in
theorem t_X6_many_L30 (N : Nat) (lt b c ms rd m : Bd) (P : PL) (m1 : Bd) (x1 x2 : Int) (K : KT) (X : Kok K cX6_many yX6_many.cls lw_g ({ frames := 3, cells := 0, slots := 0, locals := 63 } : Room) (some .int) 5) (k : Int → Option (Int × Bd)) (hk : ∀ (x3 : Int), Rn K (Q_X6_many K lt b c ms rd m P) 0 0 (k x3) 69 [(3, vI x3)] [] (Zw (kE K) lt b c ms rd m1 P)) : ∀ (n : Nat) (x3 : Int) (x4 : Int), Rn K (Q_X6_many K lt b c ms rd m P) 0 0 (f_X6_many_L30 m1 x1 x2 k n x3 x4) 30 [(0, .ref (kB K + 35)), (1, vI x1), (2, vI x2), (3, vI x3), (4, vI x4)] [] (Zw (kE K) lt b c ms rd m1 P) := by
  intro n
  induction n with
  | zero =>
    intro x3 x4
    rw [f_X6_many_L30]
    exact r_none
  | succ n ih =>
    intro x3 x4
    rw [f_X6_many_L30]
    refine r_iload (pc := 30) X 4 dX6_many_30 rfl ?_
    refine r_aload_n (pc := 32) X 0 dX6_many_32 rfl rfl ?_
    refine r_get (pc := 33) (v := .ref (kB K + 36)) X 35 0 inX6 rfl rfl (by decide) tf_X6_7 rfl dX6_many_33 ?_
    refine r_iload_n (pc := 36) X 1 dX6_many_36 rfl rfl ?_
    refine r_ckA (fun h8 => ?_)
    refine r_iald (pc := 37) (f := m1 0) X 36 h8 zl_8 rfl dX6_many_37 ?_
    refine r_ck1 (fun h9 => ?_)
    refine r_ck1 (fun h10 => ?_)
    refine r_icmp_ge (pc := 38) X h9 h10 dX6_many_38 (tgt := 69) (by decide) (fun h11 => ?_) (fun h11 => ?_)
    · refine r_sub [3] rfl ?_
      exact hk x3
    · refine r_iload_n (pc := 41) X 3 dX6_many_41 rfl rfl ?_
      refine r_aload_n (pc := 42) X 0 dX6_many_42 rfl rfl ?_
      refine r_iload_n (pc := 43) X 1 dX6_many_43 rfl rfl ?_
      refine r_iload (pc := 44) X 4 dX6_many_44 rfl ?_
      refine r_callV (pc := 46) (q0 := 35) (ci := 6) (As := [vI x1, vI x4]) (rest := [vI x3]) (W' := fun q46_12 => (Zw (kE K) lt b c ms rd m1 P)) (rv := fun q46_12 => some (vI q46_12)) X dX6_many_46 rfl (fun a ha => c_X6_nodeAt N lt b c ms rd m1 P x1 x4 K.1.2.1 K.2.2.1.1 (kE K) a ha) (fun a => Zw_d _ _ _ _ _ _ _ _) gd_X6_216 rfl (n := 2) (by decide) rfl (by decide) rfl rfl rfl (by simp [z_cat, z_catR, z_catI, z_catL]) (fun q46_12 eq46_12 => ?_)
      show Rn K _ 0 0 _ 49 [(0, .ref (kB K + 35)), (1, vI x1), (2, vI x2), (3, vI x3), (4, vI x4)] [vI q46_12, vI x3] (Zw (kE K) lt b c ms rd m1 P)
      refine r_callS (pc := 49) (As := [vI q46_12]) (rest := [vI x3]) (W' := fun q49_13 => (Zw (kE K) lt b c ms rd m1 P)) (rv := fun q49_13 => some (vI q49_13)) X dX6_many_49 rfl (fun a ha => c_X6_headOf N lt b c ms rd m1 P q46_12 K.1.2.1 K.2.2.1.1 (kE K) a ha) (fun a => Zw_d _ _ _ _ _ _ _ _) gd_X6_102 rfl (n := 1) (by decide) rfl (by decide) (by simp [z_cat, z_catR, z_catI, z_catL]) (fun q49_13 eq49_13 => ?_)
      show Rn K _ 0 0 _ 52 [(0, .ref (kB K + 35)), (1, vI x1), (2, vI x2), (3, vI x3), (4, vI x4)] [vI q49_13, vI x3] (Zw (kE K) lt b c ms rd m1 P)
      refine r_iload_n (pc := 52) X 2 dX6_many_52 rfl rfl ?_
      refine r_ck1 (fun h14 => ?_)
      refine r_ck1 (fun h15 => ?_)
      refine r_jn (J := fun j61 => ∀ (s_61 : Int), Rn K (Q_X6_many K lt b c ms rd m P) 0 0 (j61 s_61) 61 [(0, .ref (kB K + 35)), (1, vI x1), (2, vI x2), (3, vI x3), (4, vI x4)] [vI s_61, vI x3] (Zw (kE K) lt b c ms rd m1 P)) ?_ (fun j61 hj61 => ?_)
      · intro s_61
        refine r_iadd (pc := 61) X dX6_many_61 ?_
        refine r_istore_n (pc := 62) (lv' := [(0, .ref (kB K + 35)), (1, vI x1), (2, vI x2), (3, vI (x3 + s_61)), (4, vI x4)]) X [1, 2, 3, 0, 4] dX6_many_62 rfl (by decide) rfl ?_
        refine r_iinc (pc := 63) (lv' := [(0, .ref (kB K + 35)), (1, vI x1), (2, vI x2), (3, vI (x3 + s_61)), (4, vI (x4 + 1))]) X 4 [1, 2, 3, 4, 0] dX6_many_63 rfl (by decide) rfl ?_
        refine r_goto (pc := 66) X dX6_many_66 (tgt := 30) (by decide) ?_
        exact ih (x3 + s_61) (x4 + 1)
      refine r_eq (z_ite j61) ?_
      refine r_icmp_ne (pc := 53) X h14 h15 dX6_many_53 (tgt := 60) (by decide) (fun h16 => ?_) (fun h16 => ?_)
      · refine r_iconst (pc := 60) X 0 dX6_many_60 (by decide) ?_
        exact hj61 0
      · refine r_iconst (pc := 56) X 1 dX6_many_56 (by decide) ?_
        refine r_goto (pc := 57) X dX6_many_57 (tgt := 61) (by decide) ?_
        exact hj61 1
set_option maxRecDepth 100000 in
set_option maxHeartbeats 4000000 in
theorem t_X6_many (N : Nat) (lt b c ms rd m : Bd) (P : PL) (x1 x2 : Int) (K : KT) (X : Kok K cX6_many yX6_many.cls lw_g ({ frames := 3, cells := 0, slots := 0, locals := 63 } : Room) (some .int) 5) : Rn K (Q_X6_many K lt b c ms rd m P) 0 0 (f_X6_many N m x1 x2) 0 [(0, .ref (kB K + 35)), (1, vI x1), (2, vI x2)] [] (Zw (kE K) lt b c ms rd m P) := by
  unfold f_X6_many
  refine r_aload_n (pc := 0) X 0 dX6_many_0 rfl rfl ?_
  refine r_iload_n (pc := 1) X 1 dX6_many_1 rfl rfl ?_
  refine r_callV (pc := 2) (q0 := 35) (ci := 6) (As := [vI x1]) (rest := []) (W' := fun q2_1 => (Zw (kE K) lt b c ms rd m P)) (rv := fun q2_1 => some (vI q2_1)) X dX6_many_2 rfl (fun a ha => c_X6_has N lt b c ms rd m P x1 K.1.2.1 K.2.2.1.1 (kE K) a ha) (fun a => Zw_d _ _ _ _ _ _ _ _) gd_X6_204 rfl (n := 1) (by decide) rfl (by decide) rfl rfl rfl (Nat.zero_le _) (fun q2_1 eq2_1 => ?_)
  show Rn K _ 0 0 _ 5 [(0, .ref (kB K + 35)), (1, vI x1), (2, vI x2)] [vI q2_1] (Zw (kE K) lt b c ms rd m P)
  refine r_jn (J := fun j18 => Rn K (Q_X6_many K lt b c ms rd m P) 0 0 j18 18 [(0, .ref (kB K + 35))] [] (Zw (kE K) lt b c ms rd m P)) ?_ (fun j18 hj18 => ?_)
  · skip
    refine r_aload_n (pc := 18) X 0 dX6_many_18 rfl rfl ?_
    refine r_bipush (pc := 19) X (-2) dX6_many_19 (by decide) ?_
    refine r_callV (pc := 21) (q0 := 35) (ci := 6) (As := [vI (-2)]) (rest := []) (W' := fun q21_2 => (Zw (kE K) lt b c ms rd q21_2.2 P)) (rv := fun q21_2 => some (vI q21_2.1)) X dX6_many_21 rfl (fun a ha => c_X6_refuses N lt b c ms rd m P (-2) K.1.2.1 K.2.2.1.1 (kE K) a ha) (fun a => Zw_d _ _ _ _ _ _ _ _) gd_X6_138 rfl (n := 1) (by decide) rfl (by decide) rfl rfl rfl (Nat.zero_le _) (fun q21_2 eq21_2 => ?_)
    show Rn K _ 0 0 _ 24 [(0, .ref (kB K + 35))] [vI q21_2.1] (Zw (kE K) lt b c ms rd q21_2.2 P)
    exact r_iret (pc := 24) X rfl rfl (by decide) dX6_many_24
  refine r_ck1 (fun h3 => ?_)
  refine r_ifeq (pc := 5) X h3 dX6_many_5 (tgt := 18) (by decide) (fun h4 => ?_) (fun h4 => ?_)
  · refine r_sub [0] rfl ?_
    exact hj18
  · refine r_iload_n (pc := 8) X 2 dX6_many_8 rfl rfl ?_
    refine r_iconst (pc := 9) X 0 dX6_many_9 (by decide) ?_
    refine r_bipush (pc := 10) X 6 dX6_many_10 (by decide) ?_
    refine r_callS (pc := 12) (As := [vI x2, vI 0, vI 6]) (rest := []) (W' := fun q12_5 => (Zw (kE K) lt b c ms rd m P)) (rv := fun q12_5 => some (vI q12_5)) X dX6_many_12 rfl (fun a ha => c_X6_in N lt b c ms rd m P x2 0 6 K.1.2.1 K.2.2.1.1 (kE K) a ha) (fun a => Zw_d _ _ _ _ _ _ _ _) gd_X6_86 rfl (n := 3) (by decide) rfl (by decide) (Nat.zero_le _) (fun q12_5 eq12_5 => ?_)
    show Rn K _ 0 0 _ 15 [(0, .ref (kB K + 35)), (1, vI x1), (2, vI x2)] [vI q12_5] (Zw (kE K) lt b c ms rd m P)
    refine r_ck1 (fun h6 => ?_)
    refine r_ifne (pc := 15) X h6 dX6_many_15 (tgt := 25) (by decide) (fun h7 => ?_) (fun h7 => ?_)
    · refine r_iconst (pc := 25) X 0 dX6_many_25 (by decide) ?_
      refine r_istore_n (pc := 26) (lv' := [(0, .ref (kB K + 35)), (1, vI x1), (2, vI x2), (3, vI 0)]) X [1, 2, 3, 0] dX6_many_26 rfl (by decide) rfl ?_
      refine r_iconst (pc := 27) X 0 dX6_many_27 (by decide) ?_
      refine r_istore (pc := 28) (lv' := [(0, .ref (kB K + 35)), (1, vI x1), (2, vI x2), (3, vI 0), (4, vI 0)]) X [1, 2, 3, 4, 0] dX6_many_28 (by decide) rfl ?_
      refine t_X6_many_L30 N lt b c ms rd m P m x1 x2 K X _ ?_ N 0 0
      intro x3_30
      refine r_iload_n (pc := 69) X 0 dX6_many_69 rfl rfl ?_
      exact r_iret (pc := 70) X rfl rfl (by decide) dX6_many_70
    · refine r_sub [0] rfl ?_
      exact hj18
theorem c_X6_many (N : Nat) (lt b c ms rd m : Bd) (P : PL) (x1 x2 : Int) (l : Launch) (D : va_G) (E : ET) (a : Int × Bd) (ha : f_X6_many N m x1 x2 = some a) : Ct l yX6_many (Cond.code yX6_many cX6_many 5 (some .int) :: lw_g) ({ frames := 3, cells := 0, slots := 0, locals := 63 } : Room) D E [.ref (E.2.2.2 + 35), vI x1, vI x2] (Zw E lt b c ms rd m P) (Zw E lt b c ms rd a.2 P) (some (vI a.1)) :=
  ct_of (av := fun E => [.ref (E.2.2.2 + 35), vI x1, vI x2]) (W0 := fun E => Zw E lt b c ms rd m P) (W1 := fun E (a : Int × Bd) => Zw E lt b c ms rd a.2 P) (rw := fun E a => some (vI a.1)) (by decide) rfl (fun E => Zw_d E lt b c ms rd m P) (fun E => by simp [lg_sl, z_cat, z_catR, z_catI, z_catL]) (fun K X => r_lv (by simp [lv_args, z_cat, z_catR, z_catI, z_catL]) (t_X6_many N lt b c ms rd m P x1 x2 K X)) l D E a ha
