/-! THE LAW'S LOOP (by program) -/
section Law
variable {K : KT} {α : Type} {Qf : α → State → Prop} {cl sl : Nat} {o : Option α} {pc : Nat} {lv : List (Nat × Value)} {st : List Value} {ws : va_W} {cc : ByteArray} {own : String} {Ts : List Cond} {R0 : Room} {rt : Option FieldType} {nL : Nat}
theorem r_sld {b0 Ln : Nat} {xv : Nat → Int32} {xs : Int → Int} {L i : Int} (X : Kok K cc own Ts R0 rt nL) (hXs : va_X b0 Ln xv (kS K) (kS K).heap ∧ xs = (fun j => (xv j.toNat).toInt)) (hb0 : b0 < kB K) (hi : 0 ≤ i ∧ i < L) (hL : (Ln : Int) = L ∧ L ≤ 2560) (hd : decode cc pc = .ok (.iaload, 1)) (kk : Rn K Qf cl sl o (pc + 1) lv (vI (xs i) :: st) ws) : Rn K Qf cl sl o pc lv (vI i :: .ref b0 :: st) ws := by
  intro a ha hz H locs ls h1 h2 h3 hl
  refine va_sld X.1 X.2.1 hXs.1 (Nat.lt_of_lt_of_le hb0 X.2.2.2.2.2.2.2.2.2.2.2) (Nat.not_le.mpr hb0) h3 (z_in (n := Ln) hi.1 (by omega) (by omega)) hd ?_
  have q := kk a ha hz H locs ls h1 h2 h3 hl
  rw [hXs.2] at q
  rw [z_clamp hi.1 (by omega)]
  have e : vI ((xv i.toNat).toInt) = .int (xv i.toNat) := congrArg Value.int (z_oi _)
  rw [← e]
  exact q
theorem r_slen {b0 Ln : Nat} {xv : Nat → Int32} {xs : Int → Int} {L : Int} (X : Kok K cc own Ts R0 rt nL) (hXs : va_X b0 Ln xv (kS K) (kS K).heap ∧ xs = (fun j => (xv j.toNat).toInt)) (hb0 : b0 < kB K) (hL : (Ln : Int) = L ∧ L ≤ 2560) (hd : decode cc pc = .ok (.arraylength, 1)) (kk : Rn K Qf cl sl o (pc + 1) lv (vI L :: st) ws) : Rn K Qf cl sl o pc lv (.ref b0 :: st) ws := by
  intro a ha hz H locs ls h1 h2 h3 hl
  refine va_slen X.1 X.2.1 hXs.1 (Nat.lt_of_lt_of_le hb0 X.2.2.2.2.2.2.2.2.2.2.2) (Nat.not_le.mpr hb0) h3 hd ?_
  have q := kk a ha hz H locs ls h1 h2 h3 hl
  have e : vI L = .int (Int32.ofNat Ln) := congrArg Value.int (by rw [← hL.1]; exact Int32.ofInt_eq_ofNat)
  rw [e] at q
  exact q
theorem r_leq {x y off : Int} {tgt : Nat} (X : Kok K cc own Ts R0 rt nL) (hd : decode cc pc = .ok (.lcmp, 1)) (hd2 : decode cc (pc + 1) = .ok (.ifCond .eq off, 3)) (ht : ((pc + 1 : Nat) : Int) + off = (tgt : Int)) (kk : x = y → Rn K Qf cl sl o tgt lv st ws) : Rn K Qf cl sl (if x = y then o else none) pc lv (vL y :: vL x :: st) ws := by
  intro a ha hz H locs ls h1 h2 h3 hl
  by_cases h : x = y
  · rw [if_pos h] at ha
    refine W.lcmp X.1 X.2.1 hd ?_
    have e : lg_cmp (Int64.ofInt x) (Int64.ofInt y) = 0 := by rw [h]; simp [lg_cmp]
    rw [e]
    exact lv_if_eq X.1 X.2.1 hd2 ht (fun _ => kk h a ha hz H locs ls h1 h2 h3 hl) (fun n => absurd rfl n)
  · rw [if_neg h] at ha
    cases ha
/-- what the end of the law asks of Qf -/
def LawQ (K : KT) (Qf : Unit → State → Prop) : Prop := ∀ (pc : Nat) (H : Heap) (ls : Array Slot) (locs : List Loc), (∀ q ∈ locs, (kS K).heap.size ≤ q.base) → decode cL_law pc = .ok (.ireturn, 1) → W K.1.1 K.1.2.1 K.1.2.2.1 K.1.2.2.2.1 K.1.2.2.2.2 K.2.1.1 K.2.1.2.1 K.2.1.2.2.1 K.2.1.2.2.2.1 K.2.1.2.2.2.2 H locs 600000 7300000 (Qf ()) (F0 K.2.1.1 pc ls [vI 1])
theorem law_end (K : KT) {Qf : Unit → State → Prop} (X : Kok K cL_law RL Ts R0 rt nL) (hQ : LawQ K Qf ∧ kB K = (kS K).heap.size) (h1 : cl ≤ 600000) (h2 : sl ≤ 7300000) (hd1 : decode cL_law pc = .ok (.iconst 1, 1)) (hd2 : decode cL_law (pc + 1) = .ok (.ireturn, 1)) : Rn K Qf cl sl (some ()) pc lv [] ws := by
  refine r_iconst (pc := pc) X 1 hd1 (by decide) ?_
  intro a ha hz H locs ls q1 q2 q3 hl
  cases ha
  exact W.widen h1 h2 (hQ.1 (pc + 1) H ls locs (fun q hq => by have := q3.2.2 q hq; have e := hQ.2; show (kS K).heap.size ≤ q.base; rw [← e]; exact this) hd2)
end Law
def f_law (N : Nat) (xs : Int → Int) (L : Int) : Nat → Int → Bd → Bd → Bd → Bd → Bd → Bd → PL → Option Unit
  | 0, _, _, _, _, _, _, _, _ => none
  | n + 1, x3, lt, b, c, ms, rd, m, P =>
    ck1 x3 <|
    ck1 (L - 5) <|
    if (L - 5) < x3 then
      some ()
    else
      ckA x3 L <|
      ck1 (i_and (xs x3) 31) <|
      if (i_and (xs x3) 31) = 0 then
        ckA (x3 + 1) L <|
        bn (f_X5_type lt (xs (x3 + 1))) fun q182_9 =>
        bn (f_X6_type m (xs (x3 + 1))) fun q191_10 =>
        ck1 q182_9.1 <|
        ck1 q191_10.1 <|
        if q182_9.1 = q191_10.1 then
          f_law N xs L n (x3 + 5) q182_9.2 b c ms rd q191_10.2 P
        else
          none
      else
      if (i_and (xs x3) 31) = 1 then
        bn (f_X5_clear lt) fun q200_15 =>
        bn (f_X6_clear m) fun q204_16 =>
        ck1 q200_15.1 <|
        ck1 q204_16.1 <|
        if q200_15.1 = q204_16.1 then
          f_law N xs L n (x3 + 5) q200_15.2 b c ms rd q204_16.2 P
        else
          none
      else
      if (i_and (xs x3) 31) = 2 then
        bn (f_X5_read N lt b rd P) fun q213_21 =>
        bn (f_X6_read N m) fun q217_22 =>
        ck1 q213_21.1 <|
        ck1 q217_22.1 <|
        if q213_21.1 = q217_22.1 then
          f_law N xs L n (x3 + 5) q213_21.2.1 q213_21.2.2.1 c ms q213_21.2.2.2.1 q217_22.2 q213_21.2.2.2.2
        else
          none
      else
      if (i_and (xs x3) 31) = 3 then
        ckA (x3 + 1) L <|
        bn (f_X5_order lt (xs (x3 + 1))) fun q231_28 =>
        bn (f_X6_order m (xs (x3 + 1))) fun q240_29 =>
        ck1 q231_28.1 <|
        ck1 q240_29.1 <|
        if q231_28.1 = q240_29.1 then
          f_law N xs L n (x3 + 5) q231_28.2 b c ms rd q240_29.2 P
        else
          none
      else
      if (i_and (xs x3) 31) = 4 then
        ckA (x3 + 1) L <|
        ckA (x3 + 2) L <|
        bn (f_X5_under N lt c P (xs (x3 + 1)) (xs (x3 + 2))) fun q259_36 =>
        bn (f_X6_under N m (xs (x3 + 1)) (xs (x3 + 2))) fun q273_37 =>
        ck1 q259_36.1 <|
        ck1 q273_37.1 <|
        if q259_36.1 = q273_37.1 then
          f_law N xs L n (x3 + 5) q259_36.2.1 b q259_36.2.2 ms rd q273_37.2 P
        else
          none
      else
      if (i_and (xs x3) 31) = 5 then
        ckA (x3 + 1) L <|
        ckA (x3 + 2) L <|
        bn (f_X5_alike N lt P (xs (x3 + 1)) (xs (x3 + 2))) fun q292_44 =>
        bn (f_X6_alike N m (xs (x3 + 1)) (xs (x3 + 2))) fun q306_45 =>
        ck1 q292_44.1 <|
        ck1 q306_45.1 <|
        if q292_44.1 = q306_45.1 then
          f_law N xs L n (x3 + 5) q292_44.2 b c ms rd q306_45.2 P
        else
          none
      else
      if (i_and (xs x3) 31) = 6 then
        ckA (x3 + 1) L <|
        ckA (x3 + 2) L <|
        ckA (x3 + 3) L <|
        bn (f_X5_apart N lt c P (xs (x3 + 1)) (xs (x3 + 2)) (xs (x3 + 3))) fun q330_53 =>
        bn (f_X6_apart N m (xs (x3 + 1)) (xs (x3 + 2)) (xs (x3 + 3))) fun q349_54 =>
        ck1 q330_53.1 <|
        ck1 q349_54.1 <|
        if q330_53.1 = q349_54.1 then
          f_law N xs L n (x3 + 5) q330_53.2.1 b q330_53.2.2 ms rd q349_54.2 P
        else
          none
      else
      if (i_and (xs x3) 31) = 7 then
        ckA (x3 + 1) L <|
        ckA (x3 + 2) L <|
        ckA (x3 + 3) L <|
        bn (f_X5_near N lt c P (xs (x3 + 1)) (xs (x3 + 2)) (xs (x3 + 3))) fun q373_62 =>
        bn (f_X6_near N m (xs (x3 + 1)) (xs (x3 + 2)) (xs (x3 + 3))) fun q392_63 =>
        ck1 q373_62.1 <|
        ck1 q392_63.1 <|
        if q373_62.1 = q392_63.1 then
          f_law N xs L n (x3 + 5) q373_62.2.1 b q373_62.2.2 ms rd q392_63.2 P
        else
          none
      else
      if (i_and (xs x3) 31) = 8 then
        ckA (x3 + 1) L <|
        ckA (x3 + 2) L <|
        bn (f_X5_shared N lt ms P (xs (x3 + 1)) (xs (x3 + 2))) fun q411_70 =>
        bn (f_X6_shared N m (xs (x3 + 1)) (xs (x3 + 2))) fun q425_71 =>
        ck1 q411_70.1 <|
        ck1 q425_71.1 <|
        if q411_70.1 = q425_71.1 then
          f_law N xs L n (x3 + 5) q411_70.2.1 b c q411_70.2.2 rd q425_71.2 P
        else
          none
      else
      if (i_and (xs x3) 31) = 9 then
        ckA (x3 + 1) L <|
        ckA (x3 + 2) L <|
        bn (f_X5_way N lt ms P (xs (x3 + 1)) (xs (x3 + 2))) fun q444_78 =>
        bn (f_X6_way N m (xs (x3 + 1)) (xs (x3 + 2))) fun q458_79 =>
        ck1 q444_78.1 <|
        ck1 q458_79.1 <|
        if q444_78.1 = q458_79.1 then
          f_law N xs L n (x3 + 5) q444_78.2.1 b c q444_78.2.2 rd q458_79.2 P
        else
          none
      else
      if (i_and (xs x3) 31) = 10 then
        ckA (x3 + 1) L <|
        bn (f_X5_size lt P (xs (x3 + 1))) fun q472_85 =>
        bn (f_X6_size m (xs (x3 + 1))) fun q481_86 =>
        ck1 q472_85.1 <|
        ck1 q481_86.1 <|
        if q472_85.1 = q481_86.1 then
          f_law N xs L n (x3 + 5) q472_85.2 b c ms rd q481_86.2 P
        else
          none
      else
      if (i_and (xs x3) 31) = 11 then
        ckA (x3 + 1) L <|
        bn (f_X5_head lt P (xs (x3 + 1))) fun q495_92 =>
        bn (f_X6_head m (xs (x3 + 1))) fun q504_93 =>
        ck1 q495_92.1 <|
        ck1 q504_93.1 <|
        if q495_92.1 = q504_93.1 then
          f_law N xs L n (x3 + 5) q495_92.2 b c ms rd q504_93.2 P
        else
          none
      else
      if (i_and (xs x3) 31) = 12 then
        ckA (x3 + 1) L <|
        bn (f_X5_code N lt P (xs (x3 + 1))) fun q518_99 =>
        bn (f_X6_code N m (xs (x3 + 1))) fun q527_100 =>
        if q518_99.1 = q527_100.1 then
          f_law N xs L n (x3 + 5) q518_99.2 b c ms rd q527_100.2 P
        else
          none
      else
      if (i_and (xs x3) 31) = 13 then
        ckA (x3 + 1) L <|
        bn (f_X5_deep N lt ms P (xs (x3 + 1))) fun q542_104 =>
        bn (f_X6_deep N m (xs (x3 + 1))) fun q551_105 =>
        ck1 q542_104.1 <|
        ck1 q551_105.1 <|
        if q542_104.1 = q551_105.1 then
          f_law N xs L n (x3 + 5) q542_104.2.1 b c q542_104.2.2 rd q551_105.2 P
        else
          none
      else
      if (i_and (xs x3) 31) = 14 then
        ckA (x3 + 1) L <|
        bn (f_X5_heads N lt ms P (xs (x3 + 1))) fun q565_111 =>
        bn (f_X6_heads N m (xs (x3 + 1))) fun q574_112 =>
        ck1 q565_111.1 <|
        ck1 q574_112.1 <|
        if q565_111.1 = q574_112.1 then
          f_law N xs L n (x3 + 5) q565_111.2.1 b c q565_111.2.2 rd q574_112.2 P
        else
          none
      else
      if (i_and (xs x3) 31) = 15 then
        ckA (x3 + 1) L <|
        ckA (x3 + 2) L <|
        bn (f_X5_many N lt P (xs (x3 + 1)) (xs (x3 + 2))) fun q593_119 =>
        bn (f_X6_many N m (xs (x3 + 1)) (xs (x3 + 2))) fun q607_120 =>
        ck1 q593_119.1 <|
        ck1 q607_120.1 <|
        if q593_119.1 = q607_120.1 then
          f_law N xs L n (x3 + 5) q593_119.2 b c ms rd q607_120.2 P
        else
          none
      else
      if (i_and (xs x3) 31) = 16 then
        ckA (x3 + 1) L <|
        bn (f_X5_looping N lt ms P (xs (x3 + 1))) fun q621_126 =>
        bn (f_X6_looping N m (xs (x3 + 1))) fun q630_127 =>
        ck1 q621_126.1 <|
        ck1 q630_127.1 <|
        if q621_126.1 = q630_127.1 then
          f_law N xs L n (x3 + 5) q621_126.2.1 b c q621_126.2.2 rd q630_127.2 P
        else
          none
      else
      if (i_and (xs x3) 31) = 17 then
        ckA (x3 + 1) L <|
        bn (f_X5_filled N lt ms P (xs (x3 + 1))) fun q644_133 =>
        bn (f_X6_filled N m (xs (x3 + 1))) fun q653_134 =>
        ck1 q644_133.1 <|
        ck1 q653_134.1 <|
        if q644_133.1 = q653_134.1 then
          f_law N xs L n (x3 + 5) q644_133.2.1 b c q644_133.2.2 rd q653_134.2 P
        else
          none
      else
      if (i_and (xs x3) 31) = 18 then
        ckA (x3 + 1) L <|
        bn (f_X5_least N lt ms P (xs (x3 + 1))) fun q667_140 =>
        bn (f_X6_least N m (xs (x3 + 1))) fun q676_141 =>
        ck1 q667_140.1 <|
        ck1 q676_141.1 <|
        if q667_140.1 = q676_141.1 then
          f_law N xs L n (x3 + 5) q667_140.2.1 b c q667_140.2.2 rd q676_141.2 P
        else
          none
      else
      if (i_and (xs x3) 31) = 19 then
        ckA (x3 + 1) L <|
        ckA (x3 + 2) L <|
        bn (f_X5_signs N lt ms P (xs (x3 + 1)) (xs (x3 + 2))) fun q695_148 =>
        bn (f_X6_signs N m (xs (x3 + 1)) (xs (x3 + 2))) fun q709_149 =>
        ck1 q695_148.1 <|
        ck1 q709_149.1 <|
        if q695_148.1 = q709_149.1 then
          f_law N xs L n (x3 + 5) q695_148.2.1 b c q695_148.2.2 rd q709_149.2 P
        else
          none
      else
      if (i_and (xs x3) 31) = 20 then
        ckA (x3 + 1) L <|
        ckA (x3 + 2) L <|
        bn (f_X5_base N lt b P (xs (x3 + 1)) (xs (x3 + 2))) fun q728_156 =>
        bn (f_X6_base N m (xs (x3 + 1)) (xs (x3 + 2))) fun q742_157 =>
        ck1 q728_156.1 <|
        ck1 q742_157.1 <|
        if q728_156.1 = q742_157.1 then
          f_law N xs L n (x3 + 5) q728_156.2.1 q728_156.2.2.1 c ms rd q742_157.2 q728_156.2.2.2
        else
          none
      else
      if (i_and (xs x3) 31) = 21 then
        ckA (x3 + 1) L <|
        ckA (x3 + 2) L <|
        ckA (x3 + 3) L <|
        ckA (x3 + 4) L <|
        bn (f_X5_make N lt b P (xs (x3 + 1)) (xs (x3 + 2)) (xs (x3 + 3)) (xs (x3 + 4))) fun q771_166 =>
        bn (f_X6_make N m (xs (x3 + 1)) (xs (x3 + 2)) (xs (x3 + 3)) (xs (x3 + 4))) fun q795_167 =>
        ck1 q771_166.1 <|
        ck1 q795_167.1 <|
        if q771_166.1 = q795_167.1 then
          f_law N xs L n (x3 + 5) q771_166.2.1 q771_166.2.2.1 c ms rd q795_167.2 q771_166.2.2.2
        else
          none
      else
      if (i_and (xs x3) 31) = 22 then
        ckA (x3 + 1) L <|
        ckA (x3 + 2) L <|
        ckA (x3 + 3) L <|
        bn (f_X5_part N lt b P (xs (x3 + 1)) (xs (x3 + 2)) (xs (x3 + 3))) fun q819_175 =>
        bn (f_X6_part N m (xs (x3 + 1)) (xs (x3 + 2)) (xs (x3 + 3))) fun q838_176 =>
        ck1 q819_175.1 <|
        ck1 q838_176.1 <|
        if q819_175.1 = q838_176.1 then
          f_law N xs L n (x3 + 5) q819_175.2.1 q819_175.2.2.1 c ms rd q838_176.2 q819_175.2.2.2
        else
          none
      else
      if (i_and (xs x3) 31) = 23 then
        ckA (x3 + 1) L <|
        ckA (x3 + 2) L <|
        bn (f_X5_copy N lt P (xs (x3 + 1)) (xs (x3 + 2))) fun q857_183 =>
        bn (f_X6_copy N m (xs (x3 + 1)) (xs (x3 + 2))) fun q871_184 =>
        ck1 q857_183.1 <|
        ck1 q871_184.1 <|
        if q857_183.1 = q871_184.1 then
          f_law N xs L n (x3 + 5) q857_183.2 b c ms rd q871_184.2 P
        else
          none
      else
      if (i_and (xs x3) 31) = 24 then
        ckA (x3 + 1) L <|
        ckA (x3 + 2) L <|
        ckA (x3 + 3) L <|
        ckA (x3 + 4) L <|
        bn (f_X5_bound N lt b c P (xs (x3 + 1)) (xs (x3 + 2)) (xs (x3 + 3)) (xs (x3 + 4))) fun q900_193 =>
        bn (f_X6_bound N m (xs (x3 + 1)) (xs (x3 + 2)) (xs (x3 + 3)) (xs (x3 + 4))) fun q924_194 =>
        ck1 q900_193.1 <|
        ck1 q924_194.1 <|
        if q900_193.1 = q924_194.1 then
          f_law N xs L n (x3 + 5) q900_193.2.1 q900_193.2.2.1 q900_193.2.2.2.1 ms rd q924_194.2 q900_193.2.2.2.2
        else
          none
      else
      if (i_and (xs x3) 31) = 25 then
        ckA (x3 + 1) L <|
        ckA (x3 + 2) L <|
        ckA (x3 + 3) L <|
        ckA (x3 + 4) L <|
        bn (f_X5_swap N lt b ms P (xs (x3 + 1)) (xs (x3 + 2)) (xs (x3 + 3)) (xs (x3 + 4))) fun q953_203 =>
        bn (f_X6_swap N m (xs (x3 + 1)) (xs (x3 + 2)) (xs (x3 + 3)) (xs (x3 + 4))) fun q977_204 =>
        ck1 q953_203.1 <|
        ck1 q977_204.1 <|
        if q953_203.1 = q977_204.1 then
          f_law N xs L n (x3 + 5) q953_203.2.1 q953_203.2.2.1 c q953_203.2.2.2.1 rd q977_204.2 q953_203.2.2.2.2
        else
          none
      else
      if (i_and (xs x3) 31) = 26 then
        ckA (x3 + 1) L <|
        ckA (x3 + 2) L <|
        ckA (x3 + 3) L <|
        bn (f_X5_cut N lt b P (xs (x3 + 1)) (xs (x3 + 2)) (xs (x3 + 3))) fun q1001_212 =>
        bn (f_X6_cut N m (xs (x3 + 1)) (xs (x3 + 2)) (xs (x3 + 3))) fun q1020_213 =>
        ck1 q1001_212.1 <|
        ck1 q1020_213.1 <|
        if q1001_212.1 = q1020_213.1 then
          f_law N xs L n (x3 + 5) q1001_212.2.1 q1001_212.2.2.1 c ms rd q1020_213.2 q1001_212.2.2.2
        else
          none
      else
      if (i_and (xs x3) 31) = 27 then
        ckA (x3 + 1) L <|
        ckA (x3 + 2) L <|
        ckA (x3 + 3) L <|
        bn (f_X5_turn N lt b P (xs (x3 + 1)) (xs (x3 + 2)) (xs (x3 + 3))) fun q1044_221 =>
        bn (f_X6_turn N m (xs (x3 + 1)) (xs (x3 + 2)) (xs (x3 + 3))) fun q1063_222 =>
        ck1 q1044_221.1 <|
        ck1 q1063_222.1 <|
        if q1044_221.1 = q1063_222.1 then
          f_law N xs L n (x3 + 5) q1044_221.2.1 q1044_221.2.2.1 c ms rd q1063_222.2 q1044_221.2.2.2
        else
          none
      else
      if (i_and (xs x3) 31) = 28 then
        ckA (x3 + 1) L <|
        ckA (x3 + 2) L <|
        ckA (x3 + 3) L <|
        bn (f_X5_draw N lt b P (xs (x3 + 1)) (xs (x3 + 2)) (xs (x3 + 3))) fun q1087_230 =>
        bn (f_X6_draw N m (xs (x3 + 1)) (xs (x3 + 2)) (xs (x3 + 3))) fun q1106_231 =>
        ck1 q1087_230.1 <|
        ck1 q1106_231.1 <|
        if q1087_230.1 = q1106_231.1 then
          f_law N xs L n (x3 + 5) q1087_230.2.1 q1087_230.2.2.1 c ms rd q1106_231.2 q1087_230.2.2.2
        else
          none
      else
      if (i_and (xs x3) 31) = 29 then
        bn (f_X5_back N lt P) fun q1115_236 =>
        bn (f_X6_back N m) fun q1119_237 =>
        ck1 q1115_236.1 <|
        ck1 q1119_237.1 <|
        if q1115_236.1 = q1119_237.1 then
          f_law N xs L n (x3 + 5) q1115_236.2 b c ms rd q1119_237.2 P
        else
          none
      else
      if (i_and (xs x3) 31) = 30 then
        ckA (x3 + 1) L <|
        bn (f_X5_told N lt (xs (x3 + 1))) fun q1133_243 =>
        bn (f_X6_told N m (xs (x3 + 1))) fun q1142_244 =>
        ck1 q1133_243.1 <|
        ck1 q1142_244.1 <|
        if q1133_243.1 = q1142_244.1 then
          f_law N xs L n (x3 + 5) q1133_243.2 b c ms rd q1142_244.2 P
        else
          none
      else
      if (i_and (xs x3) 31) = 31 then
        bn (f_X5_digest N lt P) fun q1151_249 =>
        bn (f_X6_digest N m) fun q1155_250 =>
        if q1151_249 = q1155_250 then
          f_law N xs L n (x3 + 5) lt b c ms rd m P
        else
          none
      else
        f_law N xs L n (x3 + 5) lt b c ms rd m P
set_option maxRecDepth 100000 in
set_option maxHeartbeats 40000000 in
theorem t_law (N : Nat) (xs : Int → Int) (L : Int) (b0 Ln : Nat) (xv : Nat → Int32) (K : KT) (X : Kok K cL_law RL lw_g room_1 ret 4) (hXs : va_X b0 Ln xv (kS K) (kS K).heap ∧ xs = (fun j => (xv j.toNat).toInt)) (hb0 : b0 < kB K) (hL : (Ln : Int) = L ∧ L ≤ 2560) (Qf : Unit → State → Prop) (hQ : LawQ K Qf ∧ kB K = (kS K).heap.size) : ∀ (n : Nat) (x3 : Int) (lt : Bd) (b : Bd) (c : Bd) (ms : Bd) (rd : Bd) (m : Bd) (P : PL), 0 ≤ x3 ∧ x3 ≤ 2560 → Rn K Qf (100 + 16 * x3.toNat) (100000 + 976 * x3.toNat) (f_law N xs L n x3 lt b c ms rd m P) 18 [(0, .ref b0), (1, .ref (kB K + 0)), (2, .ref (kB K + 35)), (3, vI x3)] [] (Zw (kE K) lt b c ms rd m P) := by
  intro n
  induction n with
  | zero =>
    intro x3 lt b c ms rd m P hx
    rw [f_law]
    exact r_none
  | succ n ih =>
    intro x3 lt b c ms rd m P hx
    rw [f_law]
    refine r_iload_n (pc := 18) X 3 dL_law_18 rfl rfl ?_
    refine r_aload_n (pc := 19) X 0 dL_law_19 rfl rfl ?_
    refine r_slen (pc := 20) X hXs hb0 hL dL_law_20 ?_
    refine r_iconst (pc := 21) X 5 dL_law_21 (by decide) ?_
    refine r_isub (pc := 22) X dL_law_22 ?_
    refine r_ck1 (fun h1 => ?_)
    refine r_ck1 (fun h2 => ?_)
    refine r_icmp_gt (pc := 23) X h1 h2 dL_law_23 (tgt := 1170) (by decide) (fun h3 => ?_) (fun h3 => ?_)
    · exact law_end K X hQ (pc := 1170) (by omega) (by omega) dL_law_1170 dL_law_1171
    · refine r_aload_n (pc := 26) X 0 dL_law_26 rfl rfl ?_
      refine r_iload_n (pc := 27) X 3 dL_law_27 rfl rfl ?_
      refine r_ckA (fun h4 => ?_)
      refine r_sld (pc := 28) X hXs hb0 h4 hL dL_law_28 ?_
      refine r_bipush (pc := 29) X 31 dL_law_29 (by decide) ?_
      refine r_iand (pc := 31) X dL_law_31 ?_
      refine r_ck1 (fun h5 => ?_)
      refine r_case (fun h7 => ?_) (fun h7 => ?_)
      · refine r_tableIn (pc := 32) X 0 h7 (by decide) dL_law_32 (by decide) rfl (tgt := 176) (by decide) ?_
        refine r_aload_n (pc := 176) X 1 dL_law_176 rfl rfl ?_
        refine r_aload_n (pc := 177) X 0 dL_law_177 rfl rfl ?_
        refine r_iload_n (pc := 178) X 3 dL_law_178 rfl rfl ?_
        refine r_iconst (pc := 179) X 1 dL_law_179 (by decide) ?_
        refine r_iadd (pc := 180) X dL_law_180 ?_
        refine r_ckA (fun h8 => ?_)
        refine r_sld (pc := 181) X hXs hb0 h8 hL dL_law_181 ?_
        refine r_callV (pc := 182) (q0 := 0) (ci := 5) (As := [vI (xs (x3 + 1))]) (rest := []) (W' := fun q182_9 => (Zw (kE K) q182_9.2 b c ms rd m P)) (rv := fun q182_9 => some (vI q182_9.1)) X dL_law_182 rfl (fun a ha => c_X5_type N lt b c ms rd m P (xs (x3 + 1)) K.1.2.1 K.2.2.1.1 (kE K) a ha) (fun a => Zw_d _ _ _ _ _ _ _ _) gd_L_13 rfl (n := 1) (by decide) rfl ⟨by decide, by decide, by simp only [room_1]; omega, by simp only [room_1]; omega⟩ rfl rfl rfl (Nat.zero_le _) (fun q182_9 eq182_9 => ?_)
        show Rn K _ (100 + 16 * x3.toNat + 0) (100000 + 976 * x3.toNat + 0) _ 185 [(0, .ref b0), (1, .ref (kB K + 0)), (2, .ref (kB K + 35)), (3, vI x3)] [vI q182_9.1] (Zw (kE K) q182_9.2 b c ms rd m P)
        refine r_aload_n (pc := 185) X 2 dL_law_185 rfl rfl ?_
        refine r_aload_n (pc := 186) X 0 dL_law_186 rfl rfl ?_
        refine r_iload_n (pc := 187) X 3 dL_law_187 rfl rfl ?_
        refine r_iconst (pc := 188) X 1 dL_law_188 (by decide) ?_
        refine r_iadd (pc := 189) X dL_law_189 ?_
        refine r_sld (pc := 190) X hXs hb0 h8 hL dL_law_190 ?_
        refine r_callV (pc := 191) (q0 := 35) (ci := 6) (As := [vI (xs (x3 + 1))]) (rest := [vI q182_9.1]) (W' := fun q191_10 => (Zw (kE K) q182_9.2 b c ms rd q191_10.2 P)) (rv := fun q191_10 => some (vI q191_10.1)) X dL_law_191 rfl (fun a ha => c_X6_type N q182_9.2 b c ms rd m P (xs (x3 + 1)) K.1.2.1 K.2.2.1.1 (kE K) a ha) (fun a => Zw_d _ _ _ _ _ _ _ _) gd_L_17 rfl (n := 1) (by decide) rfl ⟨by decide, by decide, by simp only [room_1]; omega, by simp only [room_1]; omega⟩ rfl rfl rfl (by simp [z_cat, z_catR, z_catI, z_catL]) (fun q191_10 eq191_10 => ?_)
        show Rn K _ (100 + 16 * x3.toNat + 0) (100000 + 976 * x3.toNat + 0) _ 194 [(0, .ref b0), (1, .ref (kB K + 0)), (2, .ref (kB K + 35)), (3, vI x3)] [vI q191_10.1, vI q182_9.1] (Zw (kE K) q182_9.2 b c ms rd q191_10.2 P)
        refine r_ck1 (fun h11 => ?_)
        refine r_ck1 (fun h12 => ?_)
        refine r_icmp_eq (pc := 194) X h11 h12 dL_law_194 (tgt := 1164) (by decide) (fun h13 => ?_) (fun h13 => ?_)
        · refine r_iinc (pc := 1164) (lv' := [(0, .ref b0), (1, .ref (kB K + 0)), (2, .ref (kB K + 35)), (3, vI (x3 + 5))]) X 3 [1, 2, 3, 0] dL_law_1164 rfl (by decide) rfl ?_
          refine r_goto (pc := 1167) X dL_law_1167 (tgt := 18) (by decide) ?_
          exact r_widen (c2 := 100 + 16 * (x3 + 5).toNat) (s2 := 100000 + 976 * (x3 + 5).toNat) (by omega) (by omega) (ih (x3 + 5) q182_9.2 b c ms rd q191_10.2 P ⟨by omega, by omega⟩)
        · exact r_none
      refine r_case (fun h14 => ?_) (fun h14 => ?_)
      · refine r_tableIn (pc := 32) X 1 h14 (by decide) dL_law_32 (by decide) rfl (tgt := 199) (by decide) ?_
        refine r_aload_n (pc := 199) X 1 dL_law_199 rfl rfl ?_
        refine r_callV (pc := 200) (q0 := 0) (ci := 5) (As := []) (rest := []) (W' := fun q200_15 => (Zw (kE K) q200_15.2 b c ms rd m P)) (rv := fun q200_15 => some (vI q200_15.1)) X dL_law_200 rfl (fun a ha => c_X5_clear N lt b c ms rd m P K.1.2.1 K.2.2.1.1 (kE K) a ha) (fun a => Zw_d _ _ _ _ _ _ _ _) gd_L_18 rfl (n := 0) (by decide) rfl ⟨by decide, by decide, by simp only [room_1]; omega, by simp only [room_1]; omega⟩ rfl rfl rfl (Nat.zero_le _) (fun q200_15 eq200_15 => ?_)
        show Rn K _ (100 + 16 * x3.toNat + 0) (100000 + 976 * x3.toNat + 0) _ 203 [(0, .ref b0), (1, .ref (kB K + 0)), (2, .ref (kB K + 35)), (3, vI x3)] [vI q200_15.1] (Zw (kE K) q200_15.2 b c ms rd m P)
        refine r_aload_n (pc := 203) X 2 dL_law_203 rfl rfl ?_
        refine r_callV (pc := 204) (q0 := 35) (ci := 6) (As := []) (rest := [vI q200_15.1]) (W' := fun q204_16 => (Zw (kE K) q200_15.2 b c ms rd q204_16.2 P)) (rv := fun q204_16 => some (vI q204_16.1)) X dL_law_204 rfl (fun a ha => c_X6_clear N q200_15.2 b c ms rd m P K.1.2.1 K.2.2.1.1 (kE K) a ha) (fun a => Zw_d _ _ _ _ _ _ _ _) gd_L_22 rfl (n := 0) (by decide) rfl ⟨by decide, by decide, by simp only [room_1]; omega, by simp only [room_1]; omega⟩ rfl rfl rfl (by simp [z_cat, z_catR, z_catI, z_catL]) (fun q204_16 eq204_16 => ?_)
        show Rn K _ (100 + 16 * x3.toNat + 0) (100000 + 976 * x3.toNat + 0) _ 207 [(0, .ref b0), (1, .ref (kB K + 0)), (2, .ref (kB K + 35)), (3, vI x3)] [vI q204_16.1, vI q200_15.1] (Zw (kE K) q200_15.2 b c ms rd q204_16.2 P)
        refine r_ck1 (fun h17 => ?_)
        refine r_ck1 (fun h18 => ?_)
        refine r_icmp_eq (pc := 207) X h17 h18 dL_law_207 (tgt := 1164) (by decide) (fun h19 => ?_) (fun h19 => ?_)
        · refine r_iinc (pc := 1164) (lv' := [(0, .ref b0), (1, .ref (kB K + 0)), (2, .ref (kB K + 35)), (3, vI (x3 + 5))]) X 3 [1, 2, 3, 0] dL_law_1164 rfl (by decide) rfl ?_
          refine r_goto (pc := 1167) X dL_law_1167 (tgt := 18) (by decide) ?_
          exact r_widen (c2 := 100 + 16 * (x3 + 5).toNat) (s2 := 100000 + 976 * (x3 + 5).toNat) (by omega) (by omega) (ih (x3 + 5) q200_15.2 b c ms rd q204_16.2 P ⟨by omega, by omega⟩)
        · exact r_none
      refine r_case (fun h20 => ?_) (fun h20 => ?_)
      · refine r_tableIn (pc := 32) X 2 h20 (by decide) dL_law_32 (by decide) rfl (tgt := 212) (by decide) ?_
        refine r_aload_n (pc := 212) X 1 dL_law_212 rfl rfl ?_
        refine r_callV (pc := 213) (q0 := 0) (ci := 5) (As := []) (rest := []) (W' := fun q213_21 => (Zw (kE K) q213_21.2.1 q213_21.2.2.1 c ms q213_21.2.2.2.1 m q213_21.2.2.2.2)) (rv := fun q213_21 => some (vI q213_21.1)) X dL_law_213 rfl (fun a ha => c_X5_read N lt b c ms rd m P K.1.2.1 K.2.2.1.1 (kE K) a ha) (fun a => Zw_d _ _ _ _ _ _ _ _) gd_L_23 rfl (n := 0) (by decide) rfl ⟨by decide, by decide, by simp only [room_1]; omega, by simp only [room_1]; omega⟩ rfl rfl rfl (Nat.zero_le _) (fun q213_21 eq213_21 => ?_)
        show Rn K _ (100 + 16 * x3.toNat + 16) (100000 + 976 * x3.toNat + 976) _ 216 [(0, .ref b0), (1, .ref (kB K + 0)), (2, .ref (kB K + 35)), (3, vI x3)] [vI q213_21.1] (Zw (kE K) q213_21.2.1 q213_21.2.2.1 c ms q213_21.2.2.2.1 m q213_21.2.2.2.2)
        refine r_aload_n (pc := 216) X 2 dL_law_216 rfl rfl ?_
        refine r_callV (pc := 217) (q0 := 35) (ci := 6) (As := []) (rest := [vI q213_21.1]) (W' := fun q217_22 => (Zw (kE K) q213_21.2.1 q213_21.2.2.1 c ms q213_21.2.2.2.1 q217_22.2 q213_21.2.2.2.2)) (rv := fun q217_22 => some (vI q217_22.1)) X dL_law_217 rfl (fun a ha => c_X6_read N q213_21.2.1 q213_21.2.2.1 c ms q213_21.2.2.2.1 m q213_21.2.2.2.2 K.1.2.1 K.2.2.1.1 (kE K) a ha) (fun a => Zw_d _ _ _ _ _ _ _ _) gd_L_26 rfl (n := 0) (by decide) rfl ⟨by decide, by decide, by simp only [room_1]; omega, by simp only [room_1]; omega⟩ rfl rfl rfl (by simp [z_cat, z_catR, z_catI, z_catL]) (fun q217_22 eq217_22 => ?_)
        show Rn K _ (100 + 16 * x3.toNat + 16) (100000 + 976 * x3.toNat + 976) _ 220 [(0, .ref b0), (1, .ref (kB K + 0)), (2, .ref (kB K + 35)), (3, vI x3)] [vI q217_22.1, vI q213_21.1] (Zw (kE K) q213_21.2.1 q213_21.2.2.1 c ms q213_21.2.2.2.1 q217_22.2 q213_21.2.2.2.2)
        refine r_ck1 (fun h23 => ?_)
        refine r_ck1 (fun h24 => ?_)
        refine r_icmp_eq (pc := 220) X h23 h24 dL_law_220 (tgt := 1164) (by decide) (fun h25 => ?_) (fun h25 => ?_)
        · refine r_iinc (pc := 1164) (lv' := [(0, .ref b0), (1, .ref (kB K + 0)), (2, .ref (kB K + 35)), (3, vI (x3 + 5))]) X 3 [1, 2, 3, 0] dL_law_1164 rfl (by decide) rfl ?_
          refine r_goto (pc := 1167) X dL_law_1167 (tgt := 18) (by decide) ?_
          exact r_widen (c2 := 100 + 16 * (x3 + 5).toNat) (s2 := 100000 + 976 * (x3 + 5).toNat) (by omega) (by omega) (ih (x3 + 5) q213_21.2.1 q213_21.2.2.1 c ms q213_21.2.2.2.1 q217_22.2 q213_21.2.2.2.2 ⟨by omega, by omega⟩)
        · exact r_none
      refine r_case (fun h26 => ?_) (fun h26 => ?_)
      · refine r_tableIn (pc := 32) X 3 h26 (by decide) dL_law_32 (by decide) rfl (tgt := 225) (by decide) ?_
        refine r_aload_n (pc := 225) X 1 dL_law_225 rfl rfl ?_
        refine r_aload_n (pc := 226) X 0 dL_law_226 rfl rfl ?_
        refine r_iload_n (pc := 227) X 3 dL_law_227 rfl rfl ?_
        refine r_iconst (pc := 228) X 1 dL_law_228 (by decide) ?_
        refine r_iadd (pc := 229) X dL_law_229 ?_
        refine r_ckA (fun h27 => ?_)
        refine r_sld (pc := 230) X hXs hb0 h27 hL dL_law_230 ?_
        refine r_callV (pc := 231) (q0 := 0) (ci := 5) (As := [vI (xs (x3 + 1))]) (rest := []) (W' := fun q231_28 => (Zw (kE K) q231_28.2 b c ms rd m P)) (rv := fun q231_28 => some (vI q231_28.1)) X dL_law_231 rfl (fun a ha => c_X5_order N lt b c ms rd m P (xs (x3 + 1)) K.1.2.1 K.2.2.1.1 (kE K) a ha) (fun a => Zw_d _ _ _ _ _ _ _ _) gd_L_27 rfl (n := 1) (by decide) rfl ⟨by decide, by decide, by simp only [room_1]; omega, by simp only [room_1]; omega⟩ rfl rfl rfl (Nat.zero_le _) (fun q231_28 eq231_28 => ?_)
        show Rn K _ (100 + 16 * x3.toNat + 0) (100000 + 976 * x3.toNat + 0) _ 234 [(0, .ref b0), (1, .ref (kB K + 0)), (2, .ref (kB K + 35)), (3, vI x3)] [vI q231_28.1] (Zw (kE K) q231_28.2 b c ms rd m P)
        refine r_aload_n (pc := 234) X 2 dL_law_234 rfl rfl ?_
        refine r_aload_n (pc := 235) X 0 dL_law_235 rfl rfl ?_
        refine r_iload_n (pc := 236) X 3 dL_law_236 rfl rfl ?_
        refine r_iconst (pc := 237) X 1 dL_law_237 (by decide) ?_
        refine r_iadd (pc := 238) X dL_law_238 ?_
        refine r_sld (pc := 239) X hXs hb0 h27 hL dL_law_239 ?_
        refine r_callV (pc := 240) (q0 := 35) (ci := 6) (As := [vI (xs (x3 + 1))]) (rest := [vI q231_28.1]) (W' := fun q240_29 => (Zw (kE K) q231_28.2 b c ms rd q240_29.2 P)) (rv := fun q240_29 => some (vI q240_29.1)) X dL_law_240 rfl (fun a ha => c_X6_order N q231_28.2 b c ms rd m P (xs (x3 + 1)) K.1.2.1 K.2.2.1.1 (kE K) a ha) (fun a => Zw_d _ _ _ _ _ _ _ _) gd_L_30 rfl (n := 1) (by decide) rfl ⟨by decide, by decide, by simp only [room_1]; omega, by simp only [room_1]; omega⟩ rfl rfl rfl (by simp [z_cat, z_catR, z_catI, z_catL]) (fun q240_29 eq240_29 => ?_)
        show Rn K _ (100 + 16 * x3.toNat + 0) (100000 + 976 * x3.toNat + 0) _ 243 [(0, .ref b0), (1, .ref (kB K + 0)), (2, .ref (kB K + 35)), (3, vI x3)] [vI q240_29.1, vI q231_28.1] (Zw (kE K) q231_28.2 b c ms rd q240_29.2 P)
        refine r_ck1 (fun h30 => ?_)
        refine r_ck1 (fun h31 => ?_)
        refine r_icmp_eq (pc := 243) X h30 h31 dL_law_243 (tgt := 1164) (by decide) (fun h32 => ?_) (fun h32 => ?_)
        · refine r_iinc (pc := 1164) (lv' := [(0, .ref b0), (1, .ref (kB K + 0)), (2, .ref (kB K + 35)), (3, vI (x3 + 5))]) X 3 [1, 2, 3, 0] dL_law_1164 rfl (by decide) rfl ?_
          refine r_goto (pc := 1167) X dL_law_1167 (tgt := 18) (by decide) ?_
          exact r_widen (c2 := 100 + 16 * (x3 + 5).toNat) (s2 := 100000 + 976 * (x3 + 5).toNat) (by omega) (by omega) (ih (x3 + 5) q231_28.2 b c ms rd q240_29.2 P ⟨by omega, by omega⟩)
        · exact r_none
      refine r_case (fun h33 => ?_) (fun h33 => ?_)
      · refine r_tableIn (pc := 32) X 4 h33 (by decide) dL_law_32 (by decide) rfl (tgt := 248) (by decide) ?_
        refine r_aload_n (pc := 248) X 1 dL_law_248 rfl rfl ?_
        refine r_aload_n (pc := 249) X 0 dL_law_249 rfl rfl ?_
        refine r_iload_n (pc := 250) X 3 dL_law_250 rfl rfl ?_
        refine r_iconst (pc := 251) X 1 dL_law_251 (by decide) ?_
        refine r_iadd (pc := 252) X dL_law_252 ?_
        refine r_ckA (fun h34 => ?_)
        refine r_sld (pc := 253) X hXs hb0 h34 hL dL_law_253 ?_
        refine r_aload_n (pc := 254) X 0 dL_law_254 rfl rfl ?_
        refine r_iload_n (pc := 255) X 3 dL_law_255 rfl rfl ?_
        refine r_iconst (pc := 256) X 2 dL_law_256 (by decide) ?_
        refine r_iadd (pc := 257) X dL_law_257 ?_
        refine r_ckA (fun h35 => ?_)
        refine r_sld (pc := 258) X hXs hb0 h35 hL dL_law_258 ?_
        refine r_callV (pc := 259) (q0 := 0) (ci := 5) (As := [vI (xs (x3 + 1)), vI (xs (x3 + 2))]) (rest := []) (W' := fun q259_36 => (Zw (kE K) q259_36.2.1 b q259_36.2.2 ms rd m P)) (rv := fun q259_36 => some (vI q259_36.1)) X dL_law_259 rfl (fun a ha => c_X5_under N lt b c ms rd m P (xs (x3 + 1)) (xs (x3 + 2)) K.1.2.1 K.2.2.1.1 (kE K) a ha) (fun a => Zw_d _ _ _ _ _ _ _ _) gd_L_31 rfl (n := 2) (by decide) rfl ⟨by decide, by decide, by simp only [room_1]; omega, by simp only [room_1]; omega⟩ rfl rfl rfl (Nat.zero_le _) (fun q259_36 eq259_36 => ?_)
        show Rn K _ (100 + 16 * x3.toNat + 0) (100000 + 976 * x3.toNat + 0) _ 262 [(0, .ref b0), (1, .ref (kB K + 0)), (2, .ref (kB K + 35)), (3, vI x3)] [vI q259_36.1] (Zw (kE K) q259_36.2.1 b q259_36.2.2 ms rd m P)
        refine r_aload_n (pc := 262) X 2 dL_law_262 rfl rfl ?_
        refine r_aload_n (pc := 263) X 0 dL_law_263 rfl rfl ?_
        refine r_iload_n (pc := 264) X 3 dL_law_264 rfl rfl ?_
        refine r_iconst (pc := 265) X 1 dL_law_265 (by decide) ?_
        refine r_iadd (pc := 266) X dL_law_266 ?_
        refine r_sld (pc := 267) X hXs hb0 h34 hL dL_law_267 ?_
        refine r_aload_n (pc := 268) X 0 dL_law_268 rfl rfl ?_
        refine r_iload_n (pc := 269) X 3 dL_law_269 rfl rfl ?_
        refine r_iconst (pc := 270) X 2 dL_law_270 (by decide) ?_
        refine r_iadd (pc := 271) X dL_law_271 ?_
        refine r_sld (pc := 272) X hXs hb0 h35 hL dL_law_272 ?_
        refine r_callV (pc := 273) (q0 := 35) (ci := 6) (As := [vI (xs (x3 + 1)), vI (xs (x3 + 2))]) (rest := [vI q259_36.1]) (W' := fun q273_37 => (Zw (kE K) q259_36.2.1 b q259_36.2.2 ms rd q273_37.2 P)) (rv := fun q273_37 => some (vI q273_37.1)) X dL_law_273 rfl (fun a ha => c_X6_under N q259_36.2.1 b q259_36.2.2 ms rd m P (xs (x3 + 1)) (xs (x3 + 2)) K.1.2.1 K.2.2.1.1 (kE K) a ha) (fun a => Zw_d _ _ _ _ _ _ _ _) gd_L_35 rfl (n := 2) (by decide) rfl ⟨by decide, by decide, by simp only [room_1]; omega, by simp only [room_1]; omega⟩ rfl rfl rfl (by simp [z_cat, z_catR, z_catI, z_catL]) (fun q273_37 eq273_37 => ?_)
        show Rn K _ (100 + 16 * x3.toNat + 0) (100000 + 976 * x3.toNat + 0) _ 276 [(0, .ref b0), (1, .ref (kB K + 0)), (2, .ref (kB K + 35)), (3, vI x3)] [vI q273_37.1, vI q259_36.1] (Zw (kE K) q259_36.2.1 b q259_36.2.2 ms rd q273_37.2 P)
        refine r_ck1 (fun h38 => ?_)
        refine r_ck1 (fun h39 => ?_)
        refine r_icmp_eq (pc := 276) X h38 h39 dL_law_276 (tgt := 1164) (by decide) (fun h40 => ?_) (fun h40 => ?_)
        · refine r_iinc (pc := 1164) (lv' := [(0, .ref b0), (1, .ref (kB K + 0)), (2, .ref (kB K + 35)), (3, vI (x3 + 5))]) X 3 [1, 2, 3, 0] dL_law_1164 rfl (by decide) rfl ?_
          refine r_goto (pc := 1167) X dL_law_1167 (tgt := 18) (by decide) ?_
          exact r_widen (c2 := 100 + 16 * (x3 + 5).toNat) (s2 := 100000 + 976 * (x3 + 5).toNat) (by omega) (by omega) (ih (x3 + 5) q259_36.2.1 b q259_36.2.2 ms rd q273_37.2 P ⟨by omega, by omega⟩)
        · exact r_none
      refine r_case (fun h41 => ?_) (fun h41 => ?_)
      · refine r_tableIn (pc := 32) X 5 h41 (by decide) dL_law_32 (by decide) rfl (tgt := 281) (by decide) ?_
        refine r_aload_n (pc := 281) X 1 dL_law_281 rfl rfl ?_
        refine r_aload_n (pc := 282) X 0 dL_law_282 rfl rfl ?_
        refine r_iload_n (pc := 283) X 3 dL_law_283 rfl rfl ?_
        refine r_iconst (pc := 284) X 1 dL_law_284 (by decide) ?_
        refine r_iadd (pc := 285) X dL_law_285 ?_
        refine r_ckA (fun h42 => ?_)
        refine r_sld (pc := 286) X hXs hb0 h42 hL dL_law_286 ?_
        refine r_aload_n (pc := 287) X 0 dL_law_287 rfl rfl ?_
        refine r_iload_n (pc := 288) X 3 dL_law_288 rfl rfl ?_
        refine r_iconst (pc := 289) X 2 dL_law_289 (by decide) ?_
        refine r_iadd (pc := 290) X dL_law_290 ?_
        refine r_ckA (fun h43 => ?_)
        refine r_sld (pc := 291) X hXs hb0 h43 hL dL_law_291 ?_
        refine r_callV (pc := 292) (q0 := 0) (ci := 5) (As := [vI (xs (x3 + 1)), vI (xs (x3 + 2))]) (rest := []) (W' := fun q292_44 => (Zw (kE K) q292_44.2 b c ms rd m P)) (rv := fun q292_44 => some (vI q292_44.1)) X dL_law_292 rfl (fun a ha => c_X5_alike N lt b c ms rd m P (xs (x3 + 1)) (xs (x3 + 2)) K.1.2.1 K.2.2.1.1 (kE K) a ha) (fun a => Zw_d _ _ _ _ _ _ _ _) gd_L_36 rfl (n := 2) (by decide) rfl ⟨by decide, by decide, by simp only [room_1]; omega, by simp only [room_1]; omega⟩ rfl rfl rfl (Nat.zero_le _) (fun q292_44 eq292_44 => ?_)
        show Rn K _ (100 + 16 * x3.toNat + 0) (100000 + 976 * x3.toNat + 0) _ 295 [(0, .ref b0), (1, .ref (kB K + 0)), (2, .ref (kB K + 35)), (3, vI x3)] [vI q292_44.1] (Zw (kE K) q292_44.2 b c ms rd m P)
        refine r_aload_n (pc := 295) X 2 dL_law_295 rfl rfl ?_
        refine r_aload_n (pc := 296) X 0 dL_law_296 rfl rfl ?_
        refine r_iload_n (pc := 297) X 3 dL_law_297 rfl rfl ?_
        refine r_iconst (pc := 298) X 1 dL_law_298 (by decide) ?_
        refine r_iadd (pc := 299) X dL_law_299 ?_
        refine r_sld (pc := 300) X hXs hb0 h42 hL dL_law_300 ?_
        refine r_aload_n (pc := 301) X 0 dL_law_301 rfl rfl ?_
        refine r_iload_n (pc := 302) X 3 dL_law_302 rfl rfl ?_
        refine r_iconst (pc := 303) X 2 dL_law_303 (by decide) ?_
        refine r_iadd (pc := 304) X dL_law_304 ?_
        refine r_sld (pc := 305) X hXs hb0 h43 hL dL_law_305 ?_
        refine r_callV (pc := 306) (q0 := 35) (ci := 6) (As := [vI (xs (x3 + 1)), vI (xs (x3 + 2))]) (rest := [vI q292_44.1]) (W' := fun q306_45 => (Zw (kE K) q292_44.2 b c ms rd q306_45.2 P)) (rv := fun q306_45 => some (vI q306_45.1)) X dL_law_306 rfl (fun a ha => c_X6_alike N q292_44.2 b c ms rd m P (xs (x3 + 1)) (xs (x3 + 2)) K.1.2.1 K.2.2.1.1 (kE K) a ha) (fun a => Zw_d _ _ _ _ _ _ _ _) gd_L_39 rfl (n := 2) (by decide) rfl ⟨by decide, by decide, by simp only [room_1]; omega, by simp only [room_1]; omega⟩ rfl rfl rfl (by simp [z_cat, z_catR, z_catI, z_catL]) (fun q306_45 eq306_45 => ?_)
        show Rn K _ (100 + 16 * x3.toNat + 0) (100000 + 976 * x3.toNat + 0) _ 309 [(0, .ref b0), (1, .ref (kB K + 0)), (2, .ref (kB K + 35)), (3, vI x3)] [vI q306_45.1, vI q292_44.1] (Zw (kE K) q292_44.2 b c ms rd q306_45.2 P)
        refine r_ck1 (fun h46 => ?_)
        refine r_ck1 (fun h47 => ?_)
        refine r_icmp_eq (pc := 309) X h46 h47 dL_law_309 (tgt := 1164) (by decide) (fun h48 => ?_) (fun h48 => ?_)
        · refine r_iinc (pc := 1164) (lv' := [(0, .ref b0), (1, .ref (kB K + 0)), (2, .ref (kB K + 35)), (3, vI (x3 + 5))]) X 3 [1, 2, 3, 0] dL_law_1164 rfl (by decide) rfl ?_
          refine r_goto (pc := 1167) X dL_law_1167 (tgt := 18) (by decide) ?_
          exact r_widen (c2 := 100 + 16 * (x3 + 5).toNat) (s2 := 100000 + 976 * (x3 + 5).toNat) (by omega) (by omega) (ih (x3 + 5) q292_44.2 b c ms rd q306_45.2 P ⟨by omega, by omega⟩)
        · exact r_none
      refine r_case (fun h49 => ?_) (fun h49 => ?_)
      · refine r_tableIn (pc := 32) X 6 h49 (by decide) dL_law_32 (by decide) rfl (tgt := 314) (by decide) ?_
        refine r_aload_n (pc := 314) X 1 dL_law_314 rfl rfl ?_
        refine r_aload_n (pc := 315) X 0 dL_law_315 rfl rfl ?_
        refine r_iload_n (pc := 316) X 3 dL_law_316 rfl rfl ?_
        refine r_iconst (pc := 317) X 1 dL_law_317 (by decide) ?_
        refine r_iadd (pc := 318) X dL_law_318 ?_
        refine r_ckA (fun h50 => ?_)
        refine r_sld (pc := 319) X hXs hb0 h50 hL dL_law_319 ?_
        refine r_aload_n (pc := 320) X 0 dL_law_320 rfl rfl ?_
        refine r_iload_n (pc := 321) X 3 dL_law_321 rfl rfl ?_
        refine r_iconst (pc := 322) X 2 dL_law_322 (by decide) ?_
        refine r_iadd (pc := 323) X dL_law_323 ?_
        refine r_ckA (fun h51 => ?_)
        refine r_sld (pc := 324) X hXs hb0 h51 hL dL_law_324 ?_
        refine r_aload_n (pc := 325) X 0 dL_law_325 rfl rfl ?_
        refine r_iload_n (pc := 326) X 3 dL_law_326 rfl rfl ?_
        refine r_iconst (pc := 327) X 3 dL_law_327 (by decide) ?_
        refine r_iadd (pc := 328) X dL_law_328 ?_
        refine r_ckA (fun h52 => ?_)
        refine r_sld (pc := 329) X hXs hb0 h52 hL dL_law_329 ?_
        refine r_callV (pc := 330) (q0 := 0) (ci := 5) (As := [vI (xs (x3 + 1)), vI (xs (x3 + 2)), vI (xs (x3 + 3))]) (rest := []) (W' := fun q330_53 => (Zw (kE K) q330_53.2.1 b q330_53.2.2 ms rd m P)) (rv := fun q330_53 => some (vI q330_53.1)) X dL_law_330 rfl (fun a ha => c_X5_apart N lt b c ms rd m P (xs (x3 + 1)) (xs (x3 + 2)) (xs (x3 + 3)) K.1.2.1 K.2.2.1.1 (kE K) a ha) (fun a => Zw_d _ _ _ _ _ _ _ _) gd_L_40 rfl (n := 3) (by decide) rfl ⟨by decide, by decide, by simp only [room_1]; omega, by simp only [room_1]; omega⟩ rfl rfl rfl (Nat.zero_le _) (fun q330_53 eq330_53 => ?_)
        show Rn K _ (100 + 16 * x3.toNat + 0) (100000 + 976 * x3.toNat + 0) _ 333 [(0, .ref b0), (1, .ref (kB K + 0)), (2, .ref (kB K + 35)), (3, vI x3)] [vI q330_53.1] (Zw (kE K) q330_53.2.1 b q330_53.2.2 ms rd m P)
        refine r_aload_n (pc := 333) X 2 dL_law_333 rfl rfl ?_
        refine r_aload_n (pc := 334) X 0 dL_law_334 rfl rfl ?_
        refine r_iload_n (pc := 335) X 3 dL_law_335 rfl rfl ?_
        refine r_iconst (pc := 336) X 1 dL_law_336 (by decide) ?_
        refine r_iadd (pc := 337) X dL_law_337 ?_
        refine r_sld (pc := 338) X hXs hb0 h50 hL dL_law_338 ?_
        refine r_aload_n (pc := 339) X 0 dL_law_339 rfl rfl ?_
        refine r_iload_n (pc := 340) X 3 dL_law_340 rfl rfl ?_
        refine r_iconst (pc := 341) X 2 dL_law_341 (by decide) ?_
        refine r_iadd (pc := 342) X dL_law_342 ?_
        refine r_sld (pc := 343) X hXs hb0 h51 hL dL_law_343 ?_
        refine r_aload_n (pc := 344) X 0 dL_law_344 rfl rfl ?_
        refine r_iload_n (pc := 345) X 3 dL_law_345 rfl rfl ?_
        refine r_iconst (pc := 346) X 3 dL_law_346 (by decide) ?_
        refine r_iadd (pc := 347) X dL_law_347 ?_
        refine r_sld (pc := 348) X hXs hb0 h52 hL dL_law_348 ?_
        refine r_callV (pc := 349) (q0 := 35) (ci := 6) (As := [vI (xs (x3 + 1)), vI (xs (x3 + 2)), vI (xs (x3 + 3))]) (rest := [vI q330_53.1]) (W' := fun q349_54 => (Zw (kE K) q330_53.2.1 b q330_53.2.2 ms rd q349_54.2 P)) (rv := fun q349_54 => some (vI q349_54.1)) X dL_law_349 rfl (fun a ha => c_X6_apart N q330_53.2.1 b q330_53.2.2 ms rd m P (xs (x3 + 1)) (xs (x3 + 2)) (xs (x3 + 3)) K.1.2.1 K.2.2.1.1 (kE K) a ha) (fun a => Zw_d _ _ _ _ _ _ _ _) gd_L_44 rfl (n := 3) (by decide) rfl ⟨by decide, by decide, by simp only [room_1]; omega, by simp only [room_1]; omega⟩ rfl rfl rfl (by simp [z_cat, z_catR, z_catI, z_catL]) (fun q349_54 eq349_54 => ?_)
        show Rn K _ (100 + 16 * x3.toNat + 0) (100000 + 976 * x3.toNat + 0) _ 352 [(0, .ref b0), (1, .ref (kB K + 0)), (2, .ref (kB K + 35)), (3, vI x3)] [vI q349_54.1, vI q330_53.1] (Zw (kE K) q330_53.2.1 b q330_53.2.2 ms rd q349_54.2 P)
        refine r_ck1 (fun h55 => ?_)
        refine r_ck1 (fun h56 => ?_)
        refine r_icmp_eq (pc := 352) X h55 h56 dL_law_352 (tgt := 1164) (by decide) (fun h57 => ?_) (fun h57 => ?_)
        · refine r_iinc (pc := 1164) (lv' := [(0, .ref b0), (1, .ref (kB K + 0)), (2, .ref (kB K + 35)), (3, vI (x3 + 5))]) X 3 [1, 2, 3, 0] dL_law_1164 rfl (by decide) rfl ?_
          refine r_goto (pc := 1167) X dL_law_1167 (tgt := 18) (by decide) ?_
          exact r_widen (c2 := 100 + 16 * (x3 + 5).toNat) (s2 := 100000 + 976 * (x3 + 5).toNat) (by omega) (by omega) (ih (x3 + 5) q330_53.2.1 b q330_53.2.2 ms rd q349_54.2 P ⟨by omega, by omega⟩)
        · exact r_none
      refine r_case (fun h58 => ?_) (fun h58 => ?_)
      · refine r_tableIn (pc := 32) X 7 h58 (by decide) dL_law_32 (by decide) rfl (tgt := 357) (by decide) ?_
        refine r_aload_n (pc := 357) X 1 dL_law_357 rfl rfl ?_
        refine r_aload_n (pc := 358) X 0 dL_law_358 rfl rfl ?_
        refine r_iload_n (pc := 359) X 3 dL_law_359 rfl rfl ?_
        refine r_iconst (pc := 360) X 1 dL_law_360 (by decide) ?_
        refine r_iadd (pc := 361) X dL_law_361 ?_
        refine r_ckA (fun h59 => ?_)
        refine r_sld (pc := 362) X hXs hb0 h59 hL dL_law_362 ?_
        refine r_aload_n (pc := 363) X 0 dL_law_363 rfl rfl ?_
        refine r_iload_n (pc := 364) X 3 dL_law_364 rfl rfl ?_
        refine r_iconst (pc := 365) X 2 dL_law_365 (by decide) ?_
        refine r_iadd (pc := 366) X dL_law_366 ?_
        refine r_ckA (fun h60 => ?_)
        refine r_sld (pc := 367) X hXs hb0 h60 hL dL_law_367 ?_
        refine r_aload_n (pc := 368) X 0 dL_law_368 rfl rfl ?_
        refine r_iload_n (pc := 369) X 3 dL_law_369 rfl rfl ?_
        refine r_iconst (pc := 370) X 3 dL_law_370 (by decide) ?_
        refine r_iadd (pc := 371) X dL_law_371 ?_
        refine r_ckA (fun h61 => ?_)
        refine r_sld (pc := 372) X hXs hb0 h61 hL dL_law_372 ?_
        refine r_callV (pc := 373) (q0 := 0) (ci := 5) (As := [vI (xs (x3 + 1)), vI (xs (x3 + 2)), vI (xs (x3 + 3))]) (rest := []) (W' := fun q373_62 => (Zw (kE K) q373_62.2.1 b q373_62.2.2 ms rd m P)) (rv := fun q373_62 => some (vI q373_62.1)) X dL_law_373 rfl (fun a ha => c_X5_near N lt b c ms rd m P (xs (x3 + 1)) (xs (x3 + 2)) (xs (x3 + 3)) K.1.2.1 K.2.2.1.1 (kE K) a ha) (fun a => Zw_d _ _ _ _ _ _ _ _) gd_L_45 rfl (n := 3) (by decide) rfl ⟨by decide, by decide, by simp only [room_1]; omega, by simp only [room_1]; omega⟩ rfl rfl rfl (Nat.zero_le _) (fun q373_62 eq373_62 => ?_)
        show Rn K _ (100 + 16 * x3.toNat + 0) (100000 + 976 * x3.toNat + 0) _ 376 [(0, .ref b0), (1, .ref (kB K + 0)), (2, .ref (kB K + 35)), (3, vI x3)] [vI q373_62.1] (Zw (kE K) q373_62.2.1 b q373_62.2.2 ms rd m P)
        refine r_aload_n (pc := 376) X 2 dL_law_376 rfl rfl ?_
        refine r_aload_n (pc := 377) X 0 dL_law_377 rfl rfl ?_
        refine r_iload_n (pc := 378) X 3 dL_law_378 rfl rfl ?_
        refine r_iconst (pc := 379) X 1 dL_law_379 (by decide) ?_
        refine r_iadd (pc := 380) X dL_law_380 ?_
        refine r_sld (pc := 381) X hXs hb0 h59 hL dL_law_381 ?_
        refine r_aload_n (pc := 382) X 0 dL_law_382 rfl rfl ?_
        refine r_iload_n (pc := 383) X 3 dL_law_383 rfl rfl ?_
        refine r_iconst (pc := 384) X 2 dL_law_384 (by decide) ?_
        refine r_iadd (pc := 385) X dL_law_385 ?_
        refine r_sld (pc := 386) X hXs hb0 h60 hL dL_law_386 ?_
        refine r_aload_n (pc := 387) X 0 dL_law_387 rfl rfl ?_
        refine r_iload_n (pc := 388) X 3 dL_law_388 rfl rfl ?_
        refine r_iconst (pc := 389) X 3 dL_law_389 (by decide) ?_
        refine r_iadd (pc := 390) X dL_law_390 ?_
        refine r_sld (pc := 391) X hXs hb0 h61 hL dL_law_391 ?_
        refine r_callV (pc := 392) (q0 := 35) (ci := 6) (As := [vI (xs (x3 + 1)), vI (xs (x3 + 2)), vI (xs (x3 + 3))]) (rest := [vI q373_62.1]) (W' := fun q392_63 => (Zw (kE K) q373_62.2.1 b q373_62.2.2 ms rd q392_63.2 P)) (rv := fun q392_63 => some (vI q392_63.1)) X dL_law_392 rfl (fun a ha => c_X6_near N q373_62.2.1 b q373_62.2.2 ms rd m P (xs (x3 + 1)) (xs (x3 + 2)) (xs (x3 + 3)) K.1.2.1 K.2.2.1.1 (kE K) a ha) (fun a => Zw_d _ _ _ _ _ _ _ _) gd_L_48 rfl (n := 3) (by decide) rfl ⟨by decide, by decide, by simp only [room_1]; omega, by simp only [room_1]; omega⟩ rfl rfl rfl (by simp [z_cat, z_catR, z_catI, z_catL]) (fun q392_63 eq392_63 => ?_)
        show Rn K _ (100 + 16 * x3.toNat + 0) (100000 + 976 * x3.toNat + 0) _ 395 [(0, .ref b0), (1, .ref (kB K + 0)), (2, .ref (kB K + 35)), (3, vI x3)] [vI q392_63.1, vI q373_62.1] (Zw (kE K) q373_62.2.1 b q373_62.2.2 ms rd q392_63.2 P)
        refine r_ck1 (fun h64 => ?_)
        refine r_ck1 (fun h65 => ?_)
        refine r_icmp_eq (pc := 395) X h64 h65 dL_law_395 (tgt := 1164) (by decide) (fun h66 => ?_) (fun h66 => ?_)
        · refine r_iinc (pc := 1164) (lv' := [(0, .ref b0), (1, .ref (kB K + 0)), (2, .ref (kB K + 35)), (3, vI (x3 + 5))]) X 3 [1, 2, 3, 0] dL_law_1164 rfl (by decide) rfl ?_
          refine r_goto (pc := 1167) X dL_law_1167 (tgt := 18) (by decide) ?_
          exact r_widen (c2 := 100 + 16 * (x3 + 5).toNat) (s2 := 100000 + 976 * (x3 + 5).toNat) (by omega) (by omega) (ih (x3 + 5) q373_62.2.1 b q373_62.2.2 ms rd q392_63.2 P ⟨by omega, by omega⟩)
        · exact r_none
      refine r_case (fun h67 => ?_) (fun h67 => ?_)
      · refine r_tableIn (pc := 32) X 8 h67 (by decide) dL_law_32 (by decide) rfl (tgt := 400) (by decide) ?_
        refine r_aload_n (pc := 400) X 1 dL_law_400 rfl rfl ?_
        refine r_aload_n (pc := 401) X 0 dL_law_401 rfl rfl ?_
        refine r_iload_n (pc := 402) X 3 dL_law_402 rfl rfl ?_
        refine r_iconst (pc := 403) X 1 dL_law_403 (by decide) ?_
        refine r_iadd (pc := 404) X dL_law_404 ?_
        refine r_ckA (fun h68 => ?_)
        refine r_sld (pc := 405) X hXs hb0 h68 hL dL_law_405 ?_
        refine r_aload_n (pc := 406) X 0 dL_law_406 rfl rfl ?_
        refine r_iload_n (pc := 407) X 3 dL_law_407 rfl rfl ?_
        refine r_iconst (pc := 408) X 2 dL_law_408 (by decide) ?_
        refine r_iadd (pc := 409) X dL_law_409 ?_
        refine r_ckA (fun h69 => ?_)
        refine r_sld (pc := 410) X hXs hb0 h69 hL dL_law_410 ?_
        refine r_callV (pc := 411) (q0 := 0) (ci := 5) (As := [vI (xs (x3 + 1)), vI (xs (x3 + 2))]) (rest := []) (W' := fun q411_70 => (Zw (kE K) q411_70.2.1 b c q411_70.2.2 rd m P)) (rv := fun q411_70 => some (vI q411_70.1)) X dL_law_411 rfl (fun a ha => c_X5_shared N lt b c ms rd m P (xs (x3 + 1)) (xs (x3 + 2)) K.1.2.1 K.2.2.1.1 (kE K) a ha) (fun a => Zw_d _ _ _ _ _ _ _ _) gd_L_49 rfl (n := 2) (by decide) rfl ⟨by decide, by decide, by simp only [room_1]; omega, by simp only [room_1]; omega⟩ rfl rfl rfl (Nat.zero_le _) (fun q411_70 eq411_70 => ?_)
        show Rn K _ (100 + 16 * x3.toNat + 0) (100000 + 976 * x3.toNat + 0) _ 414 [(0, .ref b0), (1, .ref (kB K + 0)), (2, .ref (kB K + 35)), (3, vI x3)] [vI q411_70.1] (Zw (kE K) q411_70.2.1 b c q411_70.2.2 rd m P)
        refine r_aload_n (pc := 414) X 2 dL_law_414 rfl rfl ?_
        refine r_aload_n (pc := 415) X 0 dL_law_415 rfl rfl ?_
        refine r_iload_n (pc := 416) X 3 dL_law_416 rfl rfl ?_
        refine r_iconst (pc := 417) X 1 dL_law_417 (by decide) ?_
        refine r_iadd (pc := 418) X dL_law_418 ?_
        refine r_sld (pc := 419) X hXs hb0 h68 hL dL_law_419 ?_
        refine r_aload_n (pc := 420) X 0 dL_law_420 rfl rfl ?_
        refine r_iload_n (pc := 421) X 3 dL_law_421 rfl rfl ?_
        refine r_iconst (pc := 422) X 2 dL_law_422 (by decide) ?_
        refine r_iadd (pc := 423) X dL_law_423 ?_
        refine r_sld (pc := 424) X hXs hb0 h69 hL dL_law_424 ?_
        refine r_callV (pc := 425) (q0 := 35) (ci := 6) (As := [vI (xs (x3 + 1)), vI (xs (x3 + 2))]) (rest := [vI q411_70.1]) (W' := fun q425_71 => (Zw (kE K) q411_70.2.1 b c q411_70.2.2 rd q425_71.2 P)) (rv := fun q425_71 => some (vI q425_71.1)) X dL_law_425 rfl (fun a ha => c_X6_shared N q411_70.2.1 b c q411_70.2.2 rd m P (xs (x3 + 1)) (xs (x3 + 2)) K.1.2.1 K.2.2.1.1 (kE K) a ha) (fun a => Zw_d _ _ _ _ _ _ _ _) gd_L_52 rfl (n := 2) (by decide) rfl ⟨by decide, by decide, by simp only [room_1]; omega, by simp only [room_1]; omega⟩ rfl rfl rfl (by simp [z_cat, z_catR, z_catI, z_catL]) (fun q425_71 eq425_71 => ?_)
        show Rn K _ (100 + 16 * x3.toNat + 0) (100000 + 976 * x3.toNat + 0) _ 428 [(0, .ref b0), (1, .ref (kB K + 0)), (2, .ref (kB K + 35)), (3, vI x3)] [vI q425_71.1, vI q411_70.1] (Zw (kE K) q411_70.2.1 b c q411_70.2.2 rd q425_71.2 P)
        refine r_ck1 (fun h72 => ?_)
        refine r_ck1 (fun h73 => ?_)
        refine r_icmp_eq (pc := 428) X h72 h73 dL_law_428 (tgt := 1164) (by decide) (fun h74 => ?_) (fun h74 => ?_)
        · refine r_iinc (pc := 1164) (lv' := [(0, .ref b0), (1, .ref (kB K + 0)), (2, .ref (kB K + 35)), (3, vI (x3 + 5))]) X 3 [1, 2, 3, 0] dL_law_1164 rfl (by decide) rfl ?_
          refine r_goto (pc := 1167) X dL_law_1167 (tgt := 18) (by decide) ?_
          exact r_widen (c2 := 100 + 16 * (x3 + 5).toNat) (s2 := 100000 + 976 * (x3 + 5).toNat) (by omega) (by omega) (ih (x3 + 5) q411_70.2.1 b c q411_70.2.2 rd q425_71.2 P ⟨by omega, by omega⟩)
        · exact r_none
      refine r_case (fun h75 => ?_) (fun h75 => ?_)
      · refine r_tableIn (pc := 32) X 9 h75 (by decide) dL_law_32 (by decide) rfl (tgt := 433) (by decide) ?_
        refine r_aload_n (pc := 433) X 1 dL_law_433 rfl rfl ?_
        refine r_aload_n (pc := 434) X 0 dL_law_434 rfl rfl ?_
        refine r_iload_n (pc := 435) X 3 dL_law_435 rfl rfl ?_
        refine r_iconst (pc := 436) X 1 dL_law_436 (by decide) ?_
        refine r_iadd (pc := 437) X dL_law_437 ?_
        refine r_ckA (fun h76 => ?_)
        refine r_sld (pc := 438) X hXs hb0 h76 hL dL_law_438 ?_
        refine r_aload_n (pc := 439) X 0 dL_law_439 rfl rfl ?_
        refine r_iload_n (pc := 440) X 3 dL_law_440 rfl rfl ?_
        refine r_iconst (pc := 441) X 2 dL_law_441 (by decide) ?_
        refine r_iadd (pc := 442) X dL_law_442 ?_
        refine r_ckA (fun h77 => ?_)
        refine r_sld (pc := 443) X hXs hb0 h77 hL dL_law_443 ?_
        refine r_callV (pc := 444) (q0 := 0) (ci := 5) (As := [vI (xs (x3 + 1)), vI (xs (x3 + 2))]) (rest := []) (W' := fun q444_78 => (Zw (kE K) q444_78.2.1 b c q444_78.2.2 rd m P)) (rv := fun q444_78 => some (vI q444_78.1)) X dL_law_444 rfl (fun a ha => c_X5_way N lt b c ms rd m P (xs (x3 + 1)) (xs (x3 + 2)) K.1.2.1 K.2.2.1.1 (kE K) a ha) (fun a => Zw_d _ _ _ _ _ _ _ _) gd_L_53 rfl (n := 2) (by decide) rfl ⟨by decide, by decide, by simp only [room_1]; omega, by simp only [room_1]; omega⟩ rfl rfl rfl (Nat.zero_le _) (fun q444_78 eq444_78 => ?_)
        show Rn K _ (100 + 16 * x3.toNat + 0) (100000 + 976 * x3.toNat + 0) _ 447 [(0, .ref b0), (1, .ref (kB K + 0)), (2, .ref (kB K + 35)), (3, vI x3)] [vI q444_78.1] (Zw (kE K) q444_78.2.1 b c q444_78.2.2 rd m P)
        refine r_aload_n (pc := 447) X 2 dL_law_447 rfl rfl ?_
        refine r_aload_n (pc := 448) X 0 dL_law_448 rfl rfl ?_
        refine r_iload_n (pc := 449) X 3 dL_law_449 rfl rfl ?_
        refine r_iconst (pc := 450) X 1 dL_law_450 (by decide) ?_
        refine r_iadd (pc := 451) X dL_law_451 ?_
        refine r_sld (pc := 452) X hXs hb0 h76 hL dL_law_452 ?_
        refine r_aload_n (pc := 453) X 0 dL_law_453 rfl rfl ?_
        refine r_iload_n (pc := 454) X 3 dL_law_454 rfl rfl ?_
        refine r_iconst (pc := 455) X 2 dL_law_455 (by decide) ?_
        refine r_iadd (pc := 456) X dL_law_456 ?_
        refine r_sld (pc := 457) X hXs hb0 h77 hL dL_law_457 ?_
        refine r_callV (pc := 458) (q0 := 35) (ci := 6) (As := [vI (xs (x3 + 1)), vI (xs (x3 + 2))]) (rest := [vI q444_78.1]) (W' := fun q458_79 => (Zw (kE K) q444_78.2.1 b c q444_78.2.2 rd q458_79.2 P)) (rv := fun q458_79 => some (vI q458_79.1)) X dL_law_458 rfl (fun a ha => c_X6_way N q444_78.2.1 b c q444_78.2.2 rd m P (xs (x3 + 1)) (xs (x3 + 2)) K.1.2.1 K.2.2.1.1 (kE K) a ha) (fun a => Zw_d _ _ _ _ _ _ _ _) gd_L_56 rfl (n := 2) (by decide) rfl ⟨by decide, by decide, by simp only [room_1]; omega, by simp only [room_1]; omega⟩ rfl rfl rfl (by simp [z_cat, z_catR, z_catI, z_catL]) (fun q458_79 eq458_79 => ?_)
        show Rn K _ (100 + 16 * x3.toNat + 0) (100000 + 976 * x3.toNat + 0) _ 461 [(0, .ref b0), (1, .ref (kB K + 0)), (2, .ref (kB K + 35)), (3, vI x3)] [vI q458_79.1, vI q444_78.1] (Zw (kE K) q444_78.2.1 b c q444_78.2.2 rd q458_79.2 P)
        refine r_ck1 (fun h80 => ?_)
        refine r_ck1 (fun h81 => ?_)
        refine r_icmp_eq (pc := 461) X h80 h81 dL_law_461 (tgt := 1164) (by decide) (fun h82 => ?_) (fun h82 => ?_)
        · refine r_iinc (pc := 1164) (lv' := [(0, .ref b0), (1, .ref (kB K + 0)), (2, .ref (kB K + 35)), (3, vI (x3 + 5))]) X 3 [1, 2, 3, 0] dL_law_1164 rfl (by decide) rfl ?_
          refine r_goto (pc := 1167) X dL_law_1167 (tgt := 18) (by decide) ?_
          exact r_widen (c2 := 100 + 16 * (x3 + 5).toNat) (s2 := 100000 + 976 * (x3 + 5).toNat) (by omega) (by omega) (ih (x3 + 5) q444_78.2.1 b c q444_78.2.2 rd q458_79.2 P ⟨by omega, by omega⟩)
        · exact r_none
      refine r_case (fun h83 => ?_) (fun h83 => ?_)
      · refine r_tableIn (pc := 32) X 10 h83 (by decide) dL_law_32 (by decide) rfl (tgt := 466) (by decide) ?_
        refine r_aload_n (pc := 466) X 1 dL_law_466 rfl rfl ?_
        refine r_aload_n (pc := 467) X 0 dL_law_467 rfl rfl ?_
        refine r_iload_n (pc := 468) X 3 dL_law_468 rfl rfl ?_
        refine r_iconst (pc := 469) X 1 dL_law_469 (by decide) ?_
        refine r_iadd (pc := 470) X dL_law_470 ?_
        refine r_ckA (fun h84 => ?_)
        refine r_sld (pc := 471) X hXs hb0 h84 hL dL_law_471 ?_
        refine r_callV (pc := 472) (q0 := 0) (ci := 5) (As := [vI (xs (x3 + 1))]) (rest := []) (W' := fun q472_85 => (Zw (kE K) q472_85.2 b c ms rd m P)) (rv := fun q472_85 => some (vI q472_85.1)) X dL_law_472 rfl (fun a ha => c_X5_size N lt b c ms rd m P (xs (x3 + 1)) K.1.2.1 K.2.2.1.1 (kE K) a ha) (fun a => Zw_d _ _ _ _ _ _ _ _) gd_L_57 rfl (n := 1) (by decide) rfl ⟨by decide, by decide, by simp only [room_1]; omega, by simp only [room_1]; omega⟩ rfl rfl rfl (Nat.zero_le _) (fun q472_85 eq472_85 => ?_)
        show Rn K _ (100 + 16 * x3.toNat + 0) (100000 + 976 * x3.toNat + 0) _ 475 [(0, .ref b0), (1, .ref (kB K + 0)), (2, .ref (kB K + 35)), (3, vI x3)] [vI q472_85.1] (Zw (kE K) q472_85.2 b c ms rd m P)
        refine r_aload_n (pc := 475) X 2 dL_law_475 rfl rfl ?_
        refine r_aload_n (pc := 476) X 0 dL_law_476 rfl rfl ?_
        refine r_iload_n (pc := 477) X 3 dL_law_477 rfl rfl ?_
        refine r_iconst (pc := 478) X 1 dL_law_478 (by decide) ?_
        refine r_iadd (pc := 479) X dL_law_479 ?_
        refine r_sld (pc := 480) X hXs hb0 h84 hL dL_law_480 ?_
        refine r_callV (pc := 481) (q0 := 35) (ci := 6) (As := [vI (xs (x3 + 1))]) (rest := [vI q472_85.1]) (W' := fun q481_86 => (Zw (kE K) q472_85.2 b c ms rd q481_86.2 P)) (rv := fun q481_86 => some (vI q481_86.1)) X dL_law_481 rfl (fun a ha => c_X6_size N q472_85.2 b c ms rd m P (xs (x3 + 1)) K.1.2.1 K.2.2.1.1 (kE K) a ha) (fun a => Zw_d _ _ _ _ _ _ _ _) gd_L_60 rfl (n := 1) (by decide) rfl ⟨by decide, by decide, by simp only [room_1]; omega, by simp only [room_1]; omega⟩ rfl rfl rfl (by simp [z_cat, z_catR, z_catI, z_catL]) (fun q481_86 eq481_86 => ?_)
        show Rn K _ (100 + 16 * x3.toNat + 0) (100000 + 976 * x3.toNat + 0) _ 484 [(0, .ref b0), (1, .ref (kB K + 0)), (2, .ref (kB K + 35)), (3, vI x3)] [vI q481_86.1, vI q472_85.1] (Zw (kE K) q472_85.2 b c ms rd q481_86.2 P)
        refine r_ck1 (fun h87 => ?_)
        refine r_ck1 (fun h88 => ?_)
        refine r_icmp_eq (pc := 484) X h87 h88 dL_law_484 (tgt := 1164) (by decide) (fun h89 => ?_) (fun h89 => ?_)
        · refine r_iinc (pc := 1164) (lv' := [(0, .ref b0), (1, .ref (kB K + 0)), (2, .ref (kB K + 35)), (3, vI (x3 + 5))]) X 3 [1, 2, 3, 0] dL_law_1164 rfl (by decide) rfl ?_
          refine r_goto (pc := 1167) X dL_law_1167 (tgt := 18) (by decide) ?_
          exact r_widen (c2 := 100 + 16 * (x3 + 5).toNat) (s2 := 100000 + 976 * (x3 + 5).toNat) (by omega) (by omega) (ih (x3 + 5) q472_85.2 b c ms rd q481_86.2 P ⟨by omega, by omega⟩)
        · exact r_none
      refine r_case (fun h90 => ?_) (fun h90 => ?_)
      · refine r_tableIn (pc := 32) X 11 h90 (by decide) dL_law_32 (by decide) rfl (tgt := 489) (by decide) ?_
        refine r_aload_n (pc := 489) X 1 dL_law_489 rfl rfl ?_
        refine r_aload_n (pc := 490) X 0 dL_law_490 rfl rfl ?_
        refine r_iload_n (pc := 491) X 3 dL_law_491 rfl rfl ?_
        refine r_iconst (pc := 492) X 1 dL_law_492 (by decide) ?_
        refine r_iadd (pc := 493) X dL_law_493 ?_
        refine r_ckA (fun h91 => ?_)
        refine r_sld (pc := 494) X hXs hb0 h91 hL dL_law_494 ?_
        refine r_callV (pc := 495) (q0 := 0) (ci := 5) (As := [vI (xs (x3 + 1))]) (rest := []) (W' := fun q495_92 => (Zw (kE K) q495_92.2 b c ms rd m P)) (rv := fun q495_92 => some (vI q495_92.1)) X dL_law_495 rfl (fun a ha => c_X5_head N lt b c ms rd m P (xs (x3 + 1)) K.1.2.1 K.2.2.1.1 (kE K) a ha) (fun a => Zw_d _ _ _ _ _ _ _ _) gd_L_61 rfl (n := 1) (by decide) rfl ⟨by decide, by decide, by simp only [room_1]; omega, by simp only [room_1]; omega⟩ rfl rfl rfl (Nat.zero_le _) (fun q495_92 eq495_92 => ?_)
        show Rn K _ (100 + 16 * x3.toNat + 0) (100000 + 976 * x3.toNat + 0) _ 498 [(0, .ref b0), (1, .ref (kB K + 0)), (2, .ref (kB K + 35)), (3, vI x3)] [vI q495_92.1] (Zw (kE K) q495_92.2 b c ms rd m P)
        refine r_aload_n (pc := 498) X 2 dL_law_498 rfl rfl ?_
        refine r_aload_n (pc := 499) X 0 dL_law_499 rfl rfl ?_
        refine r_iload_n (pc := 500) X 3 dL_law_500 rfl rfl ?_
        refine r_iconst (pc := 501) X 1 dL_law_501 (by decide) ?_
        refine r_iadd (pc := 502) X dL_law_502 ?_
        refine r_sld (pc := 503) X hXs hb0 h91 hL dL_law_503 ?_
        refine r_callV (pc := 504) (q0 := 35) (ci := 6) (As := [vI (xs (x3 + 1))]) (rest := [vI q495_92.1]) (W' := fun q504_93 => (Zw (kE K) q495_92.2 b c ms rd q504_93.2 P)) (rv := fun q504_93 => some (vI q504_93.1)) X dL_law_504 rfl (fun a ha => c_X6_head N q495_92.2 b c ms rd m P (xs (x3 + 1)) K.1.2.1 K.2.2.1.1 (kE K) a ha) (fun a => Zw_d _ _ _ _ _ _ _ _) gd_L_64 rfl (n := 1) (by decide) rfl ⟨by decide, by decide, by simp only [room_1]; omega, by simp only [room_1]; omega⟩ rfl rfl rfl (by simp [z_cat, z_catR, z_catI, z_catL]) (fun q504_93 eq504_93 => ?_)
        show Rn K _ (100 + 16 * x3.toNat + 0) (100000 + 976 * x3.toNat + 0) _ 507 [(0, .ref b0), (1, .ref (kB K + 0)), (2, .ref (kB K + 35)), (3, vI x3)] [vI q504_93.1, vI q495_92.1] (Zw (kE K) q495_92.2 b c ms rd q504_93.2 P)
        refine r_ck1 (fun h94 => ?_)
        refine r_ck1 (fun h95 => ?_)
        refine r_icmp_eq (pc := 507) X h94 h95 dL_law_507 (tgt := 1164) (by decide) (fun h96 => ?_) (fun h96 => ?_)
        · refine r_iinc (pc := 1164) (lv' := [(0, .ref b0), (1, .ref (kB K + 0)), (2, .ref (kB K + 35)), (3, vI (x3 + 5))]) X 3 [1, 2, 3, 0] dL_law_1164 rfl (by decide) rfl ?_
          refine r_goto (pc := 1167) X dL_law_1167 (tgt := 18) (by decide) ?_
          exact r_widen (c2 := 100 + 16 * (x3 + 5).toNat) (s2 := 100000 + 976 * (x3 + 5).toNat) (by omega) (by omega) (ih (x3 + 5) q495_92.2 b c ms rd q504_93.2 P ⟨by omega, by omega⟩)
        · exact r_none
      refine r_case (fun h97 => ?_) (fun h97 => ?_)
      · refine r_tableIn (pc := 32) X 12 h97 (by decide) dL_law_32 (by decide) rfl (tgt := 512) (by decide) ?_
        refine r_aload_n (pc := 512) X 1 dL_law_512 rfl rfl ?_
        refine r_aload_n (pc := 513) X 0 dL_law_513 rfl rfl ?_
        refine r_iload_n (pc := 514) X 3 dL_law_514 rfl rfl ?_
        refine r_iconst (pc := 515) X 1 dL_law_515 (by decide) ?_
        refine r_iadd (pc := 516) X dL_law_516 ?_
        refine r_ckA (fun h98 => ?_)
        refine r_sld (pc := 517) X hXs hb0 h98 hL dL_law_517 ?_
        refine r_callV (pc := 518) (q0 := 0) (ci := 5) (As := [vI (xs (x3 + 1))]) (rest := []) (W' := fun q518_99 => (Zw (kE K) q518_99.2 b c ms rd m P)) (rv := fun q518_99 => some (vL q518_99.1)) X dL_law_518 rfl (fun a ha => c_X5_code N lt b c ms rd m P (xs (x3 + 1)) K.1.2.1 K.2.2.1.1 (kE K) a ha) (fun a => Zw_d _ _ _ _ _ _ _ _) gd_L_65 rfl (n := 1) (by decide) rfl ⟨by decide, by decide, by simp only [room_1]; omega, by simp only [room_1]; omega⟩ rfl rfl rfl (Nat.zero_le _) (fun q518_99 eq518_99 => ?_)
        show Rn K _ (100 + 16 * x3.toNat + 0) (100000 + 976 * x3.toNat + 0) _ 521 [(0, .ref b0), (1, .ref (kB K + 0)), (2, .ref (kB K + 35)), (3, vI x3)] [vL q518_99.1] (Zw (kE K) q518_99.2 b c ms rd m P)
        refine r_aload_n (pc := 521) X 2 dL_law_521 rfl rfl ?_
        refine r_aload_n (pc := 522) X 0 dL_law_522 rfl rfl ?_
        refine r_iload_n (pc := 523) X 3 dL_law_523 rfl rfl ?_
        refine r_iconst (pc := 524) X 1 dL_law_524 (by decide) ?_
        refine r_iadd (pc := 525) X dL_law_525 ?_
        refine r_sld (pc := 526) X hXs hb0 h98 hL dL_law_526 ?_
        refine r_callV (pc := 527) (q0 := 35) (ci := 6) (As := [vI (xs (x3 + 1))]) (rest := [vL q518_99.1]) (W' := fun q527_100 => (Zw (kE K) q518_99.2 b c ms rd q527_100.2 P)) (rv := fun q527_100 => some (vL q527_100.1)) X dL_law_527 rfl (fun a ha => c_X6_code N q518_99.2 b c ms rd m P (xs (x3 + 1)) K.1.2.1 K.2.2.1.1 (kE K) a ha) (fun a => Zw_d _ _ _ _ _ _ _ _) gd_L_69 rfl (n := 1) (by decide) rfl ⟨by decide, by decide, by simp only [room_1]; omega, by simp only [room_1]; omega⟩ rfl rfl rfl (by simp [z_cat, z_catR, z_catI, z_catL]) (fun q527_100 eq527_100 => ?_)
        show Rn K _ (100 + 16 * x3.toNat + 0) (100000 + 976 * x3.toNat + 0) _ 530 [(0, .ref b0), (1, .ref (kB K + 0)), (2, .ref (kB K + 35)), (3, vI x3)] [vL q527_100.1, vL q518_99.1] (Zw (kE K) q518_99.2 b c ms rd q527_100.2 P)
        refine r_leq (pc := 530) X dL_law_530 dL_law_531 (tgt := 1164) (by decide) (fun h101 => ?_)
        refine r_iinc (pc := 1164) (lv' := [(0, .ref b0), (1, .ref (kB K + 0)), (2, .ref (kB K + 35)), (3, vI (x3 + 5))]) X 3 [1, 2, 3, 0] dL_law_1164 rfl (by decide) rfl ?_
        refine r_goto (pc := 1167) X dL_law_1167 (tgt := 18) (by decide) ?_
        exact r_widen (c2 := 100 + 16 * (x3 + 5).toNat) (s2 := 100000 + 976 * (x3 + 5).toNat) (by omega) (by omega) (ih (x3 + 5) q518_99.2 b c ms rd q527_100.2 P ⟨by omega, by omega⟩)
      refine r_case (fun h102 => ?_) (fun h102 => ?_)
      · refine r_tableIn (pc := 32) X 13 h102 (by decide) dL_law_32 (by decide) rfl (tgt := 536) (by decide) ?_
        refine r_aload_n (pc := 536) X 1 dL_law_536 rfl rfl ?_
        refine r_aload_n (pc := 537) X 0 dL_law_537 rfl rfl ?_
        refine r_iload_n (pc := 538) X 3 dL_law_538 rfl rfl ?_
        refine r_iconst (pc := 539) X 1 dL_law_539 (by decide) ?_
        refine r_iadd (pc := 540) X dL_law_540 ?_
        refine r_ckA (fun h103 => ?_)
        refine r_sld (pc := 541) X hXs hb0 h103 hL dL_law_541 ?_
        refine r_callV (pc := 542) (q0 := 0) (ci := 5) (As := [vI (xs (x3 + 1))]) (rest := []) (W' := fun q542_104 => (Zw (kE K) q542_104.2.1 b c q542_104.2.2 rd m P)) (rv := fun q542_104 => some (vI q542_104.1)) X dL_law_542 rfl (fun a ha => c_X5_deep N lt b c ms rd m P (xs (x3 + 1)) K.1.2.1 K.2.2.1.1 (kE K) a ha) (fun a => Zw_d _ _ _ _ _ _ _ _) gd_L_70 rfl (n := 1) (by decide) rfl ⟨by decide, by decide, by simp only [room_1]; omega, by simp only [room_1]; omega⟩ rfl rfl rfl (Nat.zero_le _) (fun q542_104 eq542_104 => ?_)
        show Rn K _ (100 + 16 * x3.toNat + 0) (100000 + 976 * x3.toNat + 0) _ 545 [(0, .ref b0), (1, .ref (kB K + 0)), (2, .ref (kB K + 35)), (3, vI x3)] [vI q542_104.1] (Zw (kE K) q542_104.2.1 b c q542_104.2.2 rd m P)
        refine r_aload_n (pc := 545) X 2 dL_law_545 rfl rfl ?_
        refine r_aload_n (pc := 546) X 0 dL_law_546 rfl rfl ?_
        refine r_iload_n (pc := 547) X 3 dL_law_547 rfl rfl ?_
        refine r_iconst (pc := 548) X 1 dL_law_548 (by decide) ?_
        refine r_iadd (pc := 549) X dL_law_549 ?_
        refine r_sld (pc := 550) X hXs hb0 h103 hL dL_law_550 ?_
        refine r_callV (pc := 551) (q0 := 35) (ci := 6) (As := [vI (xs (x3 + 1))]) (rest := [vI q542_104.1]) (W' := fun q551_105 => (Zw (kE K) q542_104.2.1 b c q542_104.2.2 rd q551_105.2 P)) (rv := fun q551_105 => some (vI q551_105.1)) X dL_law_551 rfl (fun a ha => c_X6_deep N q542_104.2.1 b c q542_104.2.2 rd m P (xs (x3 + 1)) K.1.2.1 K.2.2.1.1 (kE K) a ha) (fun a => Zw_d _ _ _ _ _ _ _ _) gd_L_73 rfl (n := 1) (by decide) rfl ⟨by decide, by decide, by simp only [room_1]; omega, by simp only [room_1]; omega⟩ rfl rfl rfl (by simp [z_cat, z_catR, z_catI, z_catL]) (fun q551_105 eq551_105 => ?_)
        show Rn K _ (100 + 16 * x3.toNat + 0) (100000 + 976 * x3.toNat + 0) _ 554 [(0, .ref b0), (1, .ref (kB K + 0)), (2, .ref (kB K + 35)), (3, vI x3)] [vI q551_105.1, vI q542_104.1] (Zw (kE K) q542_104.2.1 b c q542_104.2.2 rd q551_105.2 P)
        refine r_ck1 (fun h106 => ?_)
        refine r_ck1 (fun h107 => ?_)
        refine r_icmp_eq (pc := 554) X h106 h107 dL_law_554 (tgt := 1164) (by decide) (fun h108 => ?_) (fun h108 => ?_)
        · refine r_iinc (pc := 1164) (lv' := [(0, .ref b0), (1, .ref (kB K + 0)), (2, .ref (kB K + 35)), (3, vI (x3 + 5))]) X 3 [1, 2, 3, 0] dL_law_1164 rfl (by decide) rfl ?_
          refine r_goto (pc := 1167) X dL_law_1167 (tgt := 18) (by decide) ?_
          exact r_widen (c2 := 100 + 16 * (x3 + 5).toNat) (s2 := 100000 + 976 * (x3 + 5).toNat) (by omega) (by omega) (ih (x3 + 5) q542_104.2.1 b c q542_104.2.2 rd q551_105.2 P ⟨by omega, by omega⟩)
        · exact r_none
      refine r_case (fun h109 => ?_) (fun h109 => ?_)
      · refine r_tableIn (pc := 32) X 14 h109 (by decide) dL_law_32 (by decide) rfl (tgt := 559) (by decide) ?_
        refine r_aload_n (pc := 559) X 1 dL_law_559 rfl rfl ?_
        refine r_aload_n (pc := 560) X 0 dL_law_560 rfl rfl ?_
        refine r_iload_n (pc := 561) X 3 dL_law_561 rfl rfl ?_
        refine r_iconst (pc := 562) X 1 dL_law_562 (by decide) ?_
        refine r_iadd (pc := 563) X dL_law_563 ?_
        refine r_ckA (fun h110 => ?_)
        refine r_sld (pc := 564) X hXs hb0 h110 hL dL_law_564 ?_
        refine r_callV (pc := 565) (q0 := 0) (ci := 5) (As := [vI (xs (x3 + 1))]) (rest := []) (W' := fun q565_111 => (Zw (kE K) q565_111.2.1 b c q565_111.2.2 rd m P)) (rv := fun q565_111 => some (vI q565_111.1)) X dL_law_565 rfl (fun a ha => c_X5_heads N lt b c ms rd m P (xs (x3 + 1)) K.1.2.1 K.2.2.1.1 (kE K) a ha) (fun a => Zw_d _ _ _ _ _ _ _ _) gd_L_74 rfl (n := 1) (by decide) rfl ⟨by decide, by decide, by simp only [room_1]; omega, by simp only [room_1]; omega⟩ rfl rfl rfl (Nat.zero_le _) (fun q565_111 eq565_111 => ?_)
        show Rn K _ (100 + 16 * x3.toNat + 0) (100000 + 976 * x3.toNat + 0) _ 568 [(0, .ref b0), (1, .ref (kB K + 0)), (2, .ref (kB K + 35)), (3, vI x3)] [vI q565_111.1] (Zw (kE K) q565_111.2.1 b c q565_111.2.2 rd m P)
        refine r_aload_n (pc := 568) X 2 dL_law_568 rfl rfl ?_
        refine r_aload_n (pc := 569) X 0 dL_law_569 rfl rfl ?_
        refine r_iload_n (pc := 570) X 3 dL_law_570 rfl rfl ?_
        refine r_iconst (pc := 571) X 1 dL_law_571 (by decide) ?_
        refine r_iadd (pc := 572) X dL_law_572 ?_
        refine r_sld (pc := 573) X hXs hb0 h110 hL dL_law_573 ?_
        refine r_callV (pc := 574) (q0 := 35) (ci := 6) (As := [vI (xs (x3 + 1))]) (rest := [vI q565_111.1]) (W' := fun q574_112 => (Zw (kE K) q565_111.2.1 b c q565_111.2.2 rd q574_112.2 P)) (rv := fun q574_112 => some (vI q574_112.1)) X dL_law_574 rfl (fun a ha => c_X6_heads N q565_111.2.1 b c q565_111.2.2 rd m P (xs (x3 + 1)) K.1.2.1 K.2.2.1.1 (kE K) a ha) (fun a => Zw_d _ _ _ _ _ _ _ _) gd_L_77 rfl (n := 1) (by decide) rfl ⟨by decide, by decide, by simp only [room_1]; omega, by simp only [room_1]; omega⟩ rfl rfl rfl (by simp [z_cat, z_catR, z_catI, z_catL]) (fun q574_112 eq574_112 => ?_)
        show Rn K _ (100 + 16 * x3.toNat + 0) (100000 + 976 * x3.toNat + 0) _ 577 [(0, .ref b0), (1, .ref (kB K + 0)), (2, .ref (kB K + 35)), (3, vI x3)] [vI q574_112.1, vI q565_111.1] (Zw (kE K) q565_111.2.1 b c q565_111.2.2 rd q574_112.2 P)
        refine r_ck1 (fun h113 => ?_)
        refine r_ck1 (fun h114 => ?_)
        refine r_icmp_eq (pc := 577) X h113 h114 dL_law_577 (tgt := 1164) (by decide) (fun h115 => ?_) (fun h115 => ?_)
        · refine r_iinc (pc := 1164) (lv' := [(0, .ref b0), (1, .ref (kB K + 0)), (2, .ref (kB K + 35)), (3, vI (x3 + 5))]) X 3 [1, 2, 3, 0] dL_law_1164 rfl (by decide) rfl ?_
          refine r_goto (pc := 1167) X dL_law_1167 (tgt := 18) (by decide) ?_
          exact r_widen (c2 := 100 + 16 * (x3 + 5).toNat) (s2 := 100000 + 976 * (x3 + 5).toNat) (by omega) (by omega) (ih (x3 + 5) q565_111.2.1 b c q565_111.2.2 rd q574_112.2 P ⟨by omega, by omega⟩)
        · exact r_none
      refine r_case (fun h116 => ?_) (fun h116 => ?_)
      · refine r_tableIn (pc := 32) X 15 h116 (by decide) dL_law_32 (by decide) rfl (tgt := 582) (by decide) ?_
        refine r_aload_n (pc := 582) X 1 dL_law_582 rfl rfl ?_
        refine r_aload_n (pc := 583) X 0 dL_law_583 rfl rfl ?_
        refine r_iload_n (pc := 584) X 3 dL_law_584 rfl rfl ?_
        refine r_iconst (pc := 585) X 1 dL_law_585 (by decide) ?_
        refine r_iadd (pc := 586) X dL_law_586 ?_
        refine r_ckA (fun h117 => ?_)
        refine r_sld (pc := 587) X hXs hb0 h117 hL dL_law_587 ?_
        refine r_aload_n (pc := 588) X 0 dL_law_588 rfl rfl ?_
        refine r_iload_n (pc := 589) X 3 dL_law_589 rfl rfl ?_
        refine r_iconst (pc := 590) X 2 dL_law_590 (by decide) ?_
        refine r_iadd (pc := 591) X dL_law_591 ?_
        refine r_ckA (fun h118 => ?_)
        refine r_sld (pc := 592) X hXs hb0 h118 hL dL_law_592 ?_
        refine r_callV (pc := 593) (q0 := 0) (ci := 5) (As := [vI (xs (x3 + 1)), vI (xs (x3 + 2))]) (rest := []) (W' := fun q593_119 => (Zw (kE K) q593_119.2 b c ms rd m P)) (rv := fun q593_119 => some (vI q593_119.1)) X dL_law_593 rfl (fun a ha => c_X5_many N lt b c ms rd m P (xs (x3 + 1)) (xs (x3 + 2)) K.1.2.1 K.2.2.1.1 (kE K) a ha) (fun a => Zw_d _ _ _ _ _ _ _ _) gd_L_78 rfl (n := 2) (by decide) rfl ⟨by decide, by decide, by simp only [room_1]; omega, by simp only [room_1]; omega⟩ rfl rfl rfl (Nat.zero_le _) (fun q593_119 eq593_119 => ?_)
        show Rn K _ (100 + 16 * x3.toNat + 0) (100000 + 976 * x3.toNat + 0) _ 596 [(0, .ref b0), (1, .ref (kB K + 0)), (2, .ref (kB K + 35)), (3, vI x3)] [vI q593_119.1] (Zw (kE K) q593_119.2 b c ms rd m P)
        refine r_aload_n (pc := 596) X 2 dL_law_596 rfl rfl ?_
        refine r_aload_n (pc := 597) X 0 dL_law_597 rfl rfl ?_
        refine r_iload_n (pc := 598) X 3 dL_law_598 rfl rfl ?_
        refine r_iconst (pc := 599) X 1 dL_law_599 (by decide) ?_
        refine r_iadd (pc := 600) X dL_law_600 ?_
        refine r_sld (pc := 601) X hXs hb0 h117 hL dL_law_601 ?_
        refine r_aload_n (pc := 602) X 0 dL_law_602 rfl rfl ?_
        refine r_iload_n (pc := 603) X 3 dL_law_603 rfl rfl ?_
        refine r_iconst (pc := 604) X 2 dL_law_604 (by decide) ?_
        refine r_iadd (pc := 605) X dL_law_605 ?_
        refine r_sld (pc := 606) X hXs hb0 h118 hL dL_law_606 ?_
        refine r_callV (pc := 607) (q0 := 35) (ci := 6) (As := [vI (xs (x3 + 1)), vI (xs (x3 + 2))]) (rest := [vI q593_119.1]) (W' := fun q607_120 => (Zw (kE K) q593_119.2 b c ms rd q607_120.2 P)) (rv := fun q607_120 => some (vI q607_120.1)) X dL_law_607 rfl (fun a ha => c_X6_many N q593_119.2 b c ms rd m P (xs (x3 + 1)) (xs (x3 + 2)) K.1.2.1 K.2.2.1.1 (kE K) a ha) (fun a => Zw_d _ _ _ _ _ _ _ _) gd_L_81 rfl (n := 2) (by decide) rfl ⟨by decide, by decide, by simp only [room_1]; omega, by simp only [room_1]; omega⟩ rfl rfl rfl (by simp [z_cat, z_catR, z_catI, z_catL]) (fun q607_120 eq607_120 => ?_)
        show Rn K _ (100 + 16 * x3.toNat + 0) (100000 + 976 * x3.toNat + 0) _ 610 [(0, .ref b0), (1, .ref (kB K + 0)), (2, .ref (kB K + 35)), (3, vI x3)] [vI q607_120.1, vI q593_119.1] (Zw (kE K) q593_119.2 b c ms rd q607_120.2 P)
        refine r_ck1 (fun h121 => ?_)
        refine r_ck1 (fun h122 => ?_)
        refine r_icmp_eq (pc := 610) X h121 h122 dL_law_610 (tgt := 1164) (by decide) (fun h123 => ?_) (fun h123 => ?_)
        · refine r_iinc (pc := 1164) (lv' := [(0, .ref b0), (1, .ref (kB K + 0)), (2, .ref (kB K + 35)), (3, vI (x3 + 5))]) X 3 [1, 2, 3, 0] dL_law_1164 rfl (by decide) rfl ?_
          refine r_goto (pc := 1167) X dL_law_1167 (tgt := 18) (by decide) ?_
          exact r_widen (c2 := 100 + 16 * (x3 + 5).toNat) (s2 := 100000 + 976 * (x3 + 5).toNat) (by omega) (by omega) (ih (x3 + 5) q593_119.2 b c ms rd q607_120.2 P ⟨by omega, by omega⟩)
        · exact r_none
      refine r_case (fun h124 => ?_) (fun h124 => ?_)
      · refine r_tableIn (pc := 32) X 16 h124 (by decide) dL_law_32 (by decide) rfl (tgt := 615) (by decide) ?_
        refine r_aload_n (pc := 615) X 1 dL_law_615 rfl rfl ?_
        refine r_aload_n (pc := 616) X 0 dL_law_616 rfl rfl ?_
        refine r_iload_n (pc := 617) X 3 dL_law_617 rfl rfl ?_
        refine r_iconst (pc := 618) X 1 dL_law_618 (by decide) ?_
        refine r_iadd (pc := 619) X dL_law_619 ?_
        refine r_ckA (fun h125 => ?_)
        refine r_sld (pc := 620) X hXs hb0 h125 hL dL_law_620 ?_
        refine r_callV (pc := 621) (q0 := 0) (ci := 5) (As := [vI (xs (x3 + 1))]) (rest := []) (W' := fun q621_126 => (Zw (kE K) q621_126.2.1 b c q621_126.2.2 rd m P)) (rv := fun q621_126 => some (vI q621_126.1)) X dL_law_621 rfl (fun a ha => c_X5_looping N lt b c ms rd m P (xs (x3 + 1)) K.1.2.1 K.2.2.1.1 (kE K) a ha) (fun a => Zw_d _ _ _ _ _ _ _ _) gd_L_82 rfl (n := 1) (by decide) rfl ⟨by decide, by decide, by simp only [room_1]; omega, by simp only [room_1]; omega⟩ rfl rfl rfl (Nat.zero_le _) (fun q621_126 eq621_126 => ?_)
        show Rn K _ (100 + 16 * x3.toNat + 0) (100000 + 976 * x3.toNat + 0) _ 624 [(0, .ref b0), (1, .ref (kB K + 0)), (2, .ref (kB K + 35)), (3, vI x3)] [vI q621_126.1] (Zw (kE K) q621_126.2.1 b c q621_126.2.2 rd m P)
        refine r_aload_n (pc := 624) X 2 dL_law_624 rfl rfl ?_
        refine r_aload_n (pc := 625) X 0 dL_law_625 rfl rfl ?_
        refine r_iload_n (pc := 626) X 3 dL_law_626 rfl rfl ?_
        refine r_iconst (pc := 627) X 1 dL_law_627 (by decide) ?_
        refine r_iadd (pc := 628) X dL_law_628 ?_
        refine r_sld (pc := 629) X hXs hb0 h125 hL dL_law_629 ?_
        refine r_callV (pc := 630) (q0 := 35) (ci := 6) (As := [vI (xs (x3 + 1))]) (rest := [vI q621_126.1]) (W' := fun q630_127 => (Zw (kE K) q621_126.2.1 b c q621_126.2.2 rd q630_127.2 P)) (rv := fun q630_127 => some (vI q630_127.1)) X dL_law_630 rfl (fun a ha => c_X6_looping N q621_126.2.1 b c q621_126.2.2 rd m P (xs (x3 + 1)) K.1.2.1 K.2.2.1.1 (kE K) a ha) (fun a => Zw_d _ _ _ _ _ _ _ _) gd_L_85 rfl (n := 1) (by decide) rfl ⟨by decide, by decide, by simp only [room_1]; omega, by simp only [room_1]; omega⟩ rfl rfl rfl (by simp [z_cat, z_catR, z_catI, z_catL]) (fun q630_127 eq630_127 => ?_)
        show Rn K _ (100 + 16 * x3.toNat + 0) (100000 + 976 * x3.toNat + 0) _ 633 [(0, .ref b0), (1, .ref (kB K + 0)), (2, .ref (kB K + 35)), (3, vI x3)] [vI q630_127.1, vI q621_126.1] (Zw (kE K) q621_126.2.1 b c q621_126.2.2 rd q630_127.2 P)
        refine r_ck1 (fun h128 => ?_)
        refine r_ck1 (fun h129 => ?_)
        refine r_icmp_eq (pc := 633) X h128 h129 dL_law_633 (tgt := 1164) (by decide) (fun h130 => ?_) (fun h130 => ?_)
        · refine r_iinc (pc := 1164) (lv' := [(0, .ref b0), (1, .ref (kB K + 0)), (2, .ref (kB K + 35)), (3, vI (x3 + 5))]) X 3 [1, 2, 3, 0] dL_law_1164 rfl (by decide) rfl ?_
          refine r_goto (pc := 1167) X dL_law_1167 (tgt := 18) (by decide) ?_
          exact r_widen (c2 := 100 + 16 * (x3 + 5).toNat) (s2 := 100000 + 976 * (x3 + 5).toNat) (by omega) (by omega) (ih (x3 + 5) q621_126.2.1 b c q621_126.2.2 rd q630_127.2 P ⟨by omega, by omega⟩)
        · exact r_none
      refine r_case (fun h131 => ?_) (fun h131 => ?_)
      · refine r_tableIn (pc := 32) X 17 h131 (by decide) dL_law_32 (by decide) rfl (tgt := 638) (by decide) ?_
        refine r_aload_n (pc := 638) X 1 dL_law_638 rfl rfl ?_
        refine r_aload_n (pc := 639) X 0 dL_law_639 rfl rfl ?_
        refine r_iload_n (pc := 640) X 3 dL_law_640 rfl rfl ?_
        refine r_iconst (pc := 641) X 1 dL_law_641 (by decide) ?_
        refine r_iadd (pc := 642) X dL_law_642 ?_
        refine r_ckA (fun h132 => ?_)
        refine r_sld (pc := 643) X hXs hb0 h132 hL dL_law_643 ?_
        refine r_callV (pc := 644) (q0 := 0) (ci := 5) (As := [vI (xs (x3 + 1))]) (rest := []) (W' := fun q644_133 => (Zw (kE K) q644_133.2.1 b c q644_133.2.2 rd m P)) (rv := fun q644_133 => some (vI q644_133.1)) X dL_law_644 rfl (fun a ha => c_X5_filled N lt b c ms rd m P (xs (x3 + 1)) K.1.2.1 K.2.2.1.1 (kE K) a ha) (fun a => Zw_d _ _ _ _ _ _ _ _) gd_L_86 rfl (n := 1) (by decide) rfl ⟨by decide, by decide, by simp only [room_1]; omega, by simp only [room_1]; omega⟩ rfl rfl rfl (Nat.zero_le _) (fun q644_133 eq644_133 => ?_)
        show Rn K _ (100 + 16 * x3.toNat + 0) (100000 + 976 * x3.toNat + 0) _ 647 [(0, .ref b0), (1, .ref (kB K + 0)), (2, .ref (kB K + 35)), (3, vI x3)] [vI q644_133.1] (Zw (kE K) q644_133.2.1 b c q644_133.2.2 rd m P)
        refine r_aload_n (pc := 647) X 2 dL_law_647 rfl rfl ?_
        refine r_aload_n (pc := 648) X 0 dL_law_648 rfl rfl ?_
        refine r_iload_n (pc := 649) X 3 dL_law_649 rfl rfl ?_
        refine r_iconst (pc := 650) X 1 dL_law_650 (by decide) ?_
        refine r_iadd (pc := 651) X dL_law_651 ?_
        refine r_sld (pc := 652) X hXs hb0 h132 hL dL_law_652 ?_
        refine r_callV (pc := 653) (q0 := 35) (ci := 6) (As := [vI (xs (x3 + 1))]) (rest := [vI q644_133.1]) (W' := fun q653_134 => (Zw (kE K) q644_133.2.1 b c q644_133.2.2 rd q653_134.2 P)) (rv := fun q653_134 => some (vI q653_134.1)) X dL_law_653 rfl (fun a ha => c_X6_filled N q644_133.2.1 b c q644_133.2.2 rd m P (xs (x3 + 1)) K.1.2.1 K.2.2.1.1 (kE K) a ha) (fun a => Zw_d _ _ _ _ _ _ _ _) gd_L_89 rfl (n := 1) (by decide) rfl ⟨by decide, by decide, by simp only [room_1]; omega, by simp only [room_1]; omega⟩ rfl rfl rfl (by simp [z_cat, z_catR, z_catI, z_catL]) (fun q653_134 eq653_134 => ?_)
        show Rn K _ (100 + 16 * x3.toNat + 0) (100000 + 976 * x3.toNat + 0) _ 656 [(0, .ref b0), (1, .ref (kB K + 0)), (2, .ref (kB K + 35)), (3, vI x3)] [vI q653_134.1, vI q644_133.1] (Zw (kE K) q644_133.2.1 b c q644_133.2.2 rd q653_134.2 P)
        refine r_ck1 (fun h135 => ?_)
        refine r_ck1 (fun h136 => ?_)
        refine r_icmp_eq (pc := 656) X h135 h136 dL_law_656 (tgt := 1164) (by decide) (fun h137 => ?_) (fun h137 => ?_)
        · refine r_iinc (pc := 1164) (lv' := [(0, .ref b0), (1, .ref (kB K + 0)), (2, .ref (kB K + 35)), (3, vI (x3 + 5))]) X 3 [1, 2, 3, 0] dL_law_1164 rfl (by decide) rfl ?_
          refine r_goto (pc := 1167) X dL_law_1167 (tgt := 18) (by decide) ?_
          exact r_widen (c2 := 100 + 16 * (x3 + 5).toNat) (s2 := 100000 + 976 * (x3 + 5).toNat) (by omega) (by omega) (ih (x3 + 5) q644_133.2.1 b c q644_133.2.2 rd q653_134.2 P ⟨by omega, by omega⟩)
        · exact r_none
      refine r_case (fun h138 => ?_) (fun h138 => ?_)
      · refine r_tableIn (pc := 32) X 18 h138 (by decide) dL_law_32 (by decide) rfl (tgt := 661) (by decide) ?_
        refine r_aload_n (pc := 661) X 1 dL_law_661 rfl rfl ?_
        refine r_aload_n (pc := 662) X 0 dL_law_662 rfl rfl ?_
        refine r_iload_n (pc := 663) X 3 dL_law_663 rfl rfl ?_
        refine r_iconst (pc := 664) X 1 dL_law_664 (by decide) ?_
        refine r_iadd (pc := 665) X dL_law_665 ?_
        refine r_ckA (fun h139 => ?_)
        refine r_sld (pc := 666) X hXs hb0 h139 hL dL_law_666 ?_
        refine r_callV (pc := 667) (q0 := 0) (ci := 5) (As := [vI (xs (x3 + 1))]) (rest := []) (W' := fun q667_140 => (Zw (kE K) q667_140.2.1 b c q667_140.2.2 rd m P)) (rv := fun q667_140 => some (vI q667_140.1)) X dL_law_667 rfl (fun a ha => c_X5_least N lt b c ms rd m P (xs (x3 + 1)) K.1.2.1 K.2.2.1.1 (kE K) a ha) (fun a => Zw_d _ _ _ _ _ _ _ _) gd_L_90 rfl (n := 1) (by decide) rfl ⟨by decide, by decide, by simp only [room_1]; omega, by simp only [room_1]; omega⟩ rfl rfl rfl (Nat.zero_le _) (fun q667_140 eq667_140 => ?_)
        show Rn K _ (100 + 16 * x3.toNat + 0) (100000 + 976 * x3.toNat + 0) _ 670 [(0, .ref b0), (1, .ref (kB K + 0)), (2, .ref (kB K + 35)), (3, vI x3)] [vI q667_140.1] (Zw (kE K) q667_140.2.1 b c q667_140.2.2 rd m P)
        refine r_aload_n (pc := 670) X 2 dL_law_670 rfl rfl ?_
        refine r_aload_n (pc := 671) X 0 dL_law_671 rfl rfl ?_
        refine r_iload_n (pc := 672) X 3 dL_law_672 rfl rfl ?_
        refine r_iconst (pc := 673) X 1 dL_law_673 (by decide) ?_
        refine r_iadd (pc := 674) X dL_law_674 ?_
        refine r_sld (pc := 675) X hXs hb0 h139 hL dL_law_675 ?_
        refine r_callV (pc := 676) (q0 := 35) (ci := 6) (As := [vI (xs (x3 + 1))]) (rest := [vI q667_140.1]) (W' := fun q676_141 => (Zw (kE K) q667_140.2.1 b c q667_140.2.2 rd q676_141.2 P)) (rv := fun q676_141 => some (vI q676_141.1)) X dL_law_676 rfl (fun a ha => c_X6_least N q667_140.2.1 b c q667_140.2.2 rd m P (xs (x3 + 1)) K.1.2.1 K.2.2.1.1 (kE K) a ha) (fun a => Zw_d _ _ _ _ _ _ _ _) gd_L_93 rfl (n := 1) (by decide) rfl ⟨by decide, by decide, by simp only [room_1]; omega, by simp only [room_1]; omega⟩ rfl rfl rfl (by simp [z_cat, z_catR, z_catI, z_catL]) (fun q676_141 eq676_141 => ?_)
        show Rn K _ (100 + 16 * x3.toNat + 0) (100000 + 976 * x3.toNat + 0) _ 679 [(0, .ref b0), (1, .ref (kB K + 0)), (2, .ref (kB K + 35)), (3, vI x3)] [vI q676_141.1, vI q667_140.1] (Zw (kE K) q667_140.2.1 b c q667_140.2.2 rd q676_141.2 P)
        refine r_ck1 (fun h142 => ?_)
        refine r_ck1 (fun h143 => ?_)
        refine r_icmp_eq (pc := 679) X h142 h143 dL_law_679 (tgt := 1164) (by decide) (fun h144 => ?_) (fun h144 => ?_)
        · refine r_iinc (pc := 1164) (lv' := [(0, .ref b0), (1, .ref (kB K + 0)), (2, .ref (kB K + 35)), (3, vI (x3 + 5))]) X 3 [1, 2, 3, 0] dL_law_1164 rfl (by decide) rfl ?_
          refine r_goto (pc := 1167) X dL_law_1167 (tgt := 18) (by decide) ?_
          exact r_widen (c2 := 100 + 16 * (x3 + 5).toNat) (s2 := 100000 + 976 * (x3 + 5).toNat) (by omega) (by omega) (ih (x3 + 5) q667_140.2.1 b c q667_140.2.2 rd q676_141.2 P ⟨by omega, by omega⟩)
        · exact r_none
      refine r_case (fun h145 => ?_) (fun h145 => ?_)
      · refine r_tableIn (pc := 32) X 19 h145 (by decide) dL_law_32 (by decide) rfl (tgt := 684) (by decide) ?_
        refine r_aload_n (pc := 684) X 1 dL_law_684 rfl rfl ?_
        refine r_aload_n (pc := 685) X 0 dL_law_685 rfl rfl ?_
        refine r_iload_n (pc := 686) X 3 dL_law_686 rfl rfl ?_
        refine r_iconst (pc := 687) X 1 dL_law_687 (by decide) ?_
        refine r_iadd (pc := 688) X dL_law_688 ?_
        refine r_ckA (fun h146 => ?_)
        refine r_sld (pc := 689) X hXs hb0 h146 hL dL_law_689 ?_
        refine r_aload_n (pc := 690) X 0 dL_law_690 rfl rfl ?_
        refine r_iload_n (pc := 691) X 3 dL_law_691 rfl rfl ?_
        refine r_iconst (pc := 692) X 2 dL_law_692 (by decide) ?_
        refine r_iadd (pc := 693) X dL_law_693 ?_
        refine r_ckA (fun h147 => ?_)
        refine r_sld (pc := 694) X hXs hb0 h147 hL dL_law_694 ?_
        refine r_callV (pc := 695) (q0 := 0) (ci := 5) (As := [vI (xs (x3 + 1)), vI (xs (x3 + 2))]) (rest := []) (W' := fun q695_148 => (Zw (kE K) q695_148.2.1 b c q695_148.2.2 rd m P)) (rv := fun q695_148 => some (vI q695_148.1)) X dL_law_695 rfl (fun a ha => c_X5_signs N lt b c ms rd m P (xs (x3 + 1)) (xs (x3 + 2)) K.1.2.1 K.2.2.1.1 (kE K) a ha) (fun a => Zw_d _ _ _ _ _ _ _ _) gd_L_94 rfl (n := 2) (by decide) rfl ⟨by decide, by decide, by simp only [room_1]; omega, by simp only [room_1]; omega⟩ rfl rfl rfl (Nat.zero_le _) (fun q695_148 eq695_148 => ?_)
        show Rn K _ (100 + 16 * x3.toNat + 0) (100000 + 976 * x3.toNat + 0) _ 698 [(0, .ref b0), (1, .ref (kB K + 0)), (2, .ref (kB K + 35)), (3, vI x3)] [vI q695_148.1] (Zw (kE K) q695_148.2.1 b c q695_148.2.2 rd m P)
        refine r_aload_n (pc := 698) X 2 dL_law_698 rfl rfl ?_
        refine r_aload_n (pc := 699) X 0 dL_law_699 rfl rfl ?_
        refine r_iload_n (pc := 700) X 3 dL_law_700 rfl rfl ?_
        refine r_iconst (pc := 701) X 1 dL_law_701 (by decide) ?_
        refine r_iadd (pc := 702) X dL_law_702 ?_
        refine r_sld (pc := 703) X hXs hb0 h146 hL dL_law_703 ?_
        refine r_aload_n (pc := 704) X 0 dL_law_704 rfl rfl ?_
        refine r_iload_n (pc := 705) X 3 dL_law_705 rfl rfl ?_
        refine r_iconst (pc := 706) X 2 dL_law_706 (by decide) ?_
        refine r_iadd (pc := 707) X dL_law_707 ?_
        refine r_sld (pc := 708) X hXs hb0 h147 hL dL_law_708 ?_
        refine r_callV (pc := 709) (q0 := 35) (ci := 6) (As := [vI (xs (x3 + 1)), vI (xs (x3 + 2))]) (rest := [vI q695_148.1]) (W' := fun q709_149 => (Zw (kE K) q695_148.2.1 b c q695_148.2.2 rd q709_149.2 P)) (rv := fun q709_149 => some (vI q709_149.1)) X dL_law_709 rfl (fun a ha => c_X6_signs N q695_148.2.1 b c q695_148.2.2 rd m P (xs (x3 + 1)) (xs (x3 + 2)) K.1.2.1 K.2.2.1.1 (kE K) a ha) (fun a => Zw_d _ _ _ _ _ _ _ _) gd_L_97 rfl (n := 2) (by decide) rfl ⟨by decide, by decide, by simp only [room_1]; omega, by simp only [room_1]; omega⟩ rfl rfl rfl (by simp [z_cat, z_catR, z_catI, z_catL]) (fun q709_149 eq709_149 => ?_)
        show Rn K _ (100 + 16 * x3.toNat + 0) (100000 + 976 * x3.toNat + 0) _ 712 [(0, .ref b0), (1, .ref (kB K + 0)), (2, .ref (kB K + 35)), (3, vI x3)] [vI q709_149.1, vI q695_148.1] (Zw (kE K) q695_148.2.1 b c q695_148.2.2 rd q709_149.2 P)
        refine r_ck1 (fun h150 => ?_)
        refine r_ck1 (fun h151 => ?_)
        refine r_icmp_eq (pc := 712) X h150 h151 dL_law_712 (tgt := 1164) (by decide) (fun h152 => ?_) (fun h152 => ?_)
        · refine r_iinc (pc := 1164) (lv' := [(0, .ref b0), (1, .ref (kB K + 0)), (2, .ref (kB K + 35)), (3, vI (x3 + 5))]) X 3 [1, 2, 3, 0] dL_law_1164 rfl (by decide) rfl ?_
          refine r_goto (pc := 1167) X dL_law_1167 (tgt := 18) (by decide) ?_
          exact r_widen (c2 := 100 + 16 * (x3 + 5).toNat) (s2 := 100000 + 976 * (x3 + 5).toNat) (by omega) (by omega) (ih (x3 + 5) q695_148.2.1 b c q695_148.2.2 rd q709_149.2 P ⟨by omega, by omega⟩)
        · exact r_none
      refine r_case (fun h153 => ?_) (fun h153 => ?_)
      · refine r_tableIn (pc := 32) X 20 h153 (by decide) dL_law_32 (by decide) rfl (tgt := 717) (by decide) ?_
        refine r_aload_n (pc := 717) X 1 dL_law_717 rfl rfl ?_
        refine r_aload_n (pc := 718) X 0 dL_law_718 rfl rfl ?_
        refine r_iload_n (pc := 719) X 3 dL_law_719 rfl rfl ?_
        refine r_iconst (pc := 720) X 1 dL_law_720 (by decide) ?_
        refine r_iadd (pc := 721) X dL_law_721 ?_
        refine r_ckA (fun h154 => ?_)
        refine r_sld (pc := 722) X hXs hb0 h154 hL dL_law_722 ?_
        refine r_aload_n (pc := 723) X 0 dL_law_723 rfl rfl ?_
        refine r_iload_n (pc := 724) X 3 dL_law_724 rfl rfl ?_
        refine r_iconst (pc := 725) X 2 dL_law_725 (by decide) ?_
        refine r_iadd (pc := 726) X dL_law_726 ?_
        refine r_ckA (fun h155 => ?_)
        refine r_sld (pc := 727) X hXs hb0 h155 hL dL_law_727 ?_
        refine r_callV (pc := 728) (q0 := 0) (ci := 5) (As := [vI (xs (x3 + 1)), vI (xs (x3 + 2))]) (rest := []) (W' := fun q728_156 => (Zw (kE K) q728_156.2.1 q728_156.2.2.1 c ms rd m q728_156.2.2.2)) (rv := fun q728_156 => some (vI q728_156.1)) X dL_law_728 rfl (fun a ha => c_X5_base N lt b c ms rd m P (xs (x3 + 1)) (xs (x3 + 2)) K.1.2.1 K.2.2.1.1 (kE K) a ha) (fun a => Zw_d _ _ _ _ _ _ _ _) gd_L_98 rfl (n := 2) (by decide) rfl ⟨by decide, by decide, by simp only [room_1]; omega, by simp only [room_1]; omega⟩ rfl rfl rfl (Nat.zero_le _) (fun q728_156 eq728_156 => ?_)
        show Rn K _ (100 + 16 * x3.toNat + 2) (100000 + 976 * x3.toNat + 122) _ 731 [(0, .ref b0), (1, .ref (kB K + 0)), (2, .ref (kB K + 35)), (3, vI x3)] [vI q728_156.1] (Zw (kE K) q728_156.2.1 q728_156.2.2.1 c ms rd m q728_156.2.2.2)
        refine r_aload_n (pc := 731) X 2 dL_law_731 rfl rfl ?_
        refine r_aload_n (pc := 732) X 0 dL_law_732 rfl rfl ?_
        refine r_iload_n (pc := 733) X 3 dL_law_733 rfl rfl ?_
        refine r_iconst (pc := 734) X 1 dL_law_734 (by decide) ?_
        refine r_iadd (pc := 735) X dL_law_735 ?_
        refine r_sld (pc := 736) X hXs hb0 h154 hL dL_law_736 ?_
        refine r_aload_n (pc := 737) X 0 dL_law_737 rfl rfl ?_
        refine r_iload_n (pc := 738) X 3 dL_law_738 rfl rfl ?_
        refine r_iconst (pc := 739) X 2 dL_law_739 (by decide) ?_
        refine r_iadd (pc := 740) X dL_law_740 ?_
        refine r_sld (pc := 741) X hXs hb0 h155 hL dL_law_741 ?_
        refine r_callV (pc := 742) (q0 := 35) (ci := 6) (As := [vI (xs (x3 + 1)), vI (xs (x3 + 2))]) (rest := [vI q728_156.1]) (W' := fun q742_157 => (Zw (kE K) q728_156.2.1 q728_156.2.2.1 c ms rd q742_157.2 q728_156.2.2.2)) (rv := fun q742_157 => some (vI q742_157.1)) X dL_law_742 rfl (fun a ha => c_X6_base N q728_156.2.1 q728_156.2.2.1 c ms rd m q728_156.2.2.2 (xs (x3 + 1)) (xs (x3 + 2)) K.1.2.1 K.2.2.1.1 (kE K) a ha) (fun a => Zw_d _ _ _ _ _ _ _ _) gd_L_101 rfl (n := 2) (by decide) rfl ⟨by decide, by decide, by simp only [room_1]; omega, by simp only [room_1]; omega⟩ rfl rfl rfl (by simp [z_cat, z_catR, z_catI, z_catL]) (fun q742_157 eq742_157 => ?_)
        show Rn K _ (100 + 16 * x3.toNat + 2) (100000 + 976 * x3.toNat + 122) _ 745 [(0, .ref b0), (1, .ref (kB K + 0)), (2, .ref (kB K + 35)), (3, vI x3)] [vI q742_157.1, vI q728_156.1] (Zw (kE K) q728_156.2.1 q728_156.2.2.1 c ms rd q742_157.2 q728_156.2.2.2)
        refine r_ck1 (fun h158 => ?_)
        refine r_ck1 (fun h159 => ?_)
        refine r_icmp_eq (pc := 745) X h158 h159 dL_law_745 (tgt := 1164) (by decide) (fun h160 => ?_) (fun h160 => ?_)
        · refine r_iinc (pc := 1164) (lv' := [(0, .ref b0), (1, .ref (kB K + 0)), (2, .ref (kB K + 35)), (3, vI (x3 + 5))]) X 3 [1, 2, 3, 0] dL_law_1164 rfl (by decide) rfl ?_
          refine r_goto (pc := 1167) X dL_law_1167 (tgt := 18) (by decide) ?_
          exact r_widen (c2 := 100 + 16 * (x3 + 5).toNat) (s2 := 100000 + 976 * (x3 + 5).toNat) (by omega) (by omega) (ih (x3 + 5) q728_156.2.1 q728_156.2.2.1 c ms rd q742_157.2 q728_156.2.2.2 ⟨by omega, by omega⟩)
        · exact r_none
      refine r_case (fun h161 => ?_) (fun h161 => ?_)
      · refine r_tableIn (pc := 32) X 21 h161 (by decide) dL_law_32 (by decide) rfl (tgt := 750) (by decide) ?_
        refine r_aload_n (pc := 750) X 1 dL_law_750 rfl rfl ?_
        refine r_aload_n (pc := 751) X 0 dL_law_751 rfl rfl ?_
        refine r_iload_n (pc := 752) X 3 dL_law_752 rfl rfl ?_
        refine r_iconst (pc := 753) X 1 dL_law_753 (by decide) ?_
        refine r_iadd (pc := 754) X dL_law_754 ?_
        refine r_ckA (fun h162 => ?_)
        refine r_sld (pc := 755) X hXs hb0 h162 hL dL_law_755 ?_
        refine r_aload_n (pc := 756) X 0 dL_law_756 rfl rfl ?_
        refine r_iload_n (pc := 757) X 3 dL_law_757 rfl rfl ?_
        refine r_iconst (pc := 758) X 2 dL_law_758 (by decide) ?_
        refine r_iadd (pc := 759) X dL_law_759 ?_
        refine r_ckA (fun h163 => ?_)
        refine r_sld (pc := 760) X hXs hb0 h163 hL dL_law_760 ?_
        refine r_aload_n (pc := 761) X 0 dL_law_761 rfl rfl ?_
        refine r_iload_n (pc := 762) X 3 dL_law_762 rfl rfl ?_
        refine r_iconst (pc := 763) X 3 dL_law_763 (by decide) ?_
        refine r_iadd (pc := 764) X dL_law_764 ?_
        refine r_ckA (fun h164 => ?_)
        refine r_sld (pc := 765) X hXs hb0 h164 hL dL_law_765 ?_
        refine r_aload_n (pc := 766) X 0 dL_law_766 rfl rfl ?_
        refine r_iload_n (pc := 767) X 3 dL_law_767 rfl rfl ?_
        refine r_iconst (pc := 768) X 4 dL_law_768 (by decide) ?_
        refine r_iadd (pc := 769) X dL_law_769 ?_
        refine r_ckA (fun h165 => ?_)
        refine r_sld (pc := 770) X hXs hb0 h165 hL dL_law_770 ?_
        refine r_callV (pc := 771) (q0 := 0) (ci := 5) (As := [vI (xs (x3 + 1)), vI (xs (x3 + 2)), vI (xs (x3 + 3)), vI (xs (x3 + 4))]) (rest := []) (W' := fun q771_166 => (Zw (kE K) q771_166.2.1 q771_166.2.2.1 c ms rd m q771_166.2.2.2)) (rv := fun q771_166 => some (vI q771_166.1)) X dL_law_771 rfl (fun a ha => c_X5_make N lt b c ms rd m P (xs (x3 + 1)) (xs (x3 + 2)) (xs (x3 + 3)) (xs (x3 + 4)) K.1.2.1 K.2.2.1.1 (kE K) a ha) (fun a => Zw_d _ _ _ _ _ _ _ _) gd_L_102 rfl (n := 4) (by decide) rfl ⟨by decide, by decide, by simp only [room_1]; omega, by simp only [room_1]; omega⟩ rfl rfl rfl (Nat.zero_le _) (fun q771_166 eq771_166 => ?_)
        show Rn K _ (100 + 16 * x3.toNat + 2) (100000 + 976 * x3.toNat + 122) _ 774 [(0, .ref b0), (1, .ref (kB K + 0)), (2, .ref (kB K + 35)), (3, vI x3)] [vI q771_166.1] (Zw (kE K) q771_166.2.1 q771_166.2.2.1 c ms rd m q771_166.2.2.2)
        refine r_aload_n (pc := 774) X 2 dL_law_774 rfl rfl ?_
        refine r_aload_n (pc := 775) X 0 dL_law_775 rfl rfl ?_
        refine r_iload_n (pc := 776) X 3 dL_law_776 rfl rfl ?_
        refine r_iconst (pc := 777) X 1 dL_law_777 (by decide) ?_
        refine r_iadd (pc := 778) X dL_law_778 ?_
        refine r_sld (pc := 779) X hXs hb0 h162 hL dL_law_779 ?_
        refine r_aload_n (pc := 780) X 0 dL_law_780 rfl rfl ?_
        refine r_iload_n (pc := 781) X 3 dL_law_781 rfl rfl ?_
        refine r_iconst (pc := 782) X 2 dL_law_782 (by decide) ?_
        refine r_iadd (pc := 783) X dL_law_783 ?_
        refine r_sld (pc := 784) X hXs hb0 h163 hL dL_law_784 ?_
        refine r_aload_n (pc := 785) X 0 dL_law_785 rfl rfl ?_
        refine r_iload_n (pc := 786) X 3 dL_law_786 rfl rfl ?_
        refine r_iconst (pc := 787) X 3 dL_law_787 (by decide) ?_
        refine r_iadd (pc := 788) X dL_law_788 ?_
        refine r_sld (pc := 789) X hXs hb0 h164 hL dL_law_789 ?_
        refine r_aload_n (pc := 790) X 0 dL_law_790 rfl rfl ?_
        refine r_iload_n (pc := 791) X 3 dL_law_791 rfl rfl ?_
        refine r_iconst (pc := 792) X 4 dL_law_792 (by decide) ?_
        refine r_iadd (pc := 793) X dL_law_793 ?_
        refine r_sld (pc := 794) X hXs hb0 h165 hL dL_law_794 ?_
        refine r_callV (pc := 795) (q0 := 35) (ci := 6) (As := [vI (xs (x3 + 1)), vI (xs (x3 + 2)), vI (xs (x3 + 3)), vI (xs (x3 + 4))]) (rest := [vI q771_166.1]) (W' := fun q795_167 => (Zw (kE K) q771_166.2.1 q771_166.2.2.1 c ms rd q795_167.2 q771_166.2.2.2)) (rv := fun q795_167 => some (vI q795_167.1)) X dL_law_795 rfl (fun a ha => c_X6_make N q771_166.2.1 q771_166.2.2.1 c ms rd m q771_166.2.2.2 (xs (x3 + 1)) (xs (x3 + 2)) (xs (x3 + 3)) (xs (x3 + 4)) K.1.2.1 K.2.2.1.1 (kE K) a ha) (fun a => Zw_d _ _ _ _ _ _ _ _) gd_L_106 rfl (n := 4) (by decide) rfl ⟨by decide, by decide, by simp only [room_1]; omega, by simp only [room_1]; omega⟩ rfl rfl rfl (by simp [z_cat, z_catR, z_catI, z_catL]) (fun q795_167 eq795_167 => ?_)
        show Rn K _ (100 + 16 * x3.toNat + 2) (100000 + 976 * x3.toNat + 122) _ 798 [(0, .ref b0), (1, .ref (kB K + 0)), (2, .ref (kB K + 35)), (3, vI x3)] [vI q795_167.1, vI q771_166.1] (Zw (kE K) q771_166.2.1 q771_166.2.2.1 c ms rd q795_167.2 q771_166.2.2.2)
        refine r_ck1 (fun h168 => ?_)
        refine r_ck1 (fun h169 => ?_)
        refine r_icmp_eq (pc := 798) X h168 h169 dL_law_798 (tgt := 1164) (by decide) (fun h170 => ?_) (fun h170 => ?_)
        · refine r_iinc (pc := 1164) (lv' := [(0, .ref b0), (1, .ref (kB K + 0)), (2, .ref (kB K + 35)), (3, vI (x3 + 5))]) X 3 [1, 2, 3, 0] dL_law_1164 rfl (by decide) rfl ?_
          refine r_goto (pc := 1167) X dL_law_1167 (tgt := 18) (by decide) ?_
          exact r_widen (c2 := 100 + 16 * (x3 + 5).toNat) (s2 := 100000 + 976 * (x3 + 5).toNat) (by omega) (by omega) (ih (x3 + 5) q771_166.2.1 q771_166.2.2.1 c ms rd q795_167.2 q771_166.2.2.2 ⟨by omega, by omega⟩)
        · exact r_none
      refine r_case (fun h171 => ?_) (fun h171 => ?_)
      · refine r_tableIn (pc := 32) X 22 h171 (by decide) dL_law_32 (by decide) rfl (tgt := 803) (by decide) ?_
        refine r_aload_n (pc := 803) X 1 dL_law_803 rfl rfl ?_
        refine r_aload_n (pc := 804) X 0 dL_law_804 rfl rfl ?_
        refine r_iload_n (pc := 805) X 3 dL_law_805 rfl rfl ?_
        refine r_iconst (pc := 806) X 1 dL_law_806 (by decide) ?_
        refine r_iadd (pc := 807) X dL_law_807 ?_
        refine r_ckA (fun h172 => ?_)
        refine r_sld (pc := 808) X hXs hb0 h172 hL dL_law_808 ?_
        refine r_aload_n (pc := 809) X 0 dL_law_809 rfl rfl ?_
        refine r_iload_n (pc := 810) X 3 dL_law_810 rfl rfl ?_
        refine r_iconst (pc := 811) X 2 dL_law_811 (by decide) ?_
        refine r_iadd (pc := 812) X dL_law_812 ?_
        refine r_ckA (fun h173 => ?_)
        refine r_sld (pc := 813) X hXs hb0 h173 hL dL_law_813 ?_
        refine r_aload_n (pc := 814) X 0 dL_law_814 rfl rfl ?_
        refine r_iload_n (pc := 815) X 3 dL_law_815 rfl rfl ?_
        refine r_iconst (pc := 816) X 3 dL_law_816 (by decide) ?_
        refine r_iadd (pc := 817) X dL_law_817 ?_
        refine r_ckA (fun h174 => ?_)
        refine r_sld (pc := 818) X hXs hb0 h174 hL dL_law_818 ?_
        refine r_callV (pc := 819) (q0 := 0) (ci := 5) (As := [vI (xs (x3 + 1)), vI (xs (x3 + 2)), vI (xs (x3 + 3))]) (rest := []) (W' := fun q819_175 => (Zw (kE K) q819_175.2.1 q819_175.2.2.1 c ms rd m q819_175.2.2.2)) (rv := fun q819_175 => some (vI q819_175.1)) X dL_law_819 rfl (fun a ha => c_X5_part N lt b c ms rd m P (xs (x3 + 1)) (xs (x3 + 2)) (xs (x3 + 3)) K.1.2.1 K.2.2.1.1 (kE K) a ha) (fun a => Zw_d _ _ _ _ _ _ _ _) gd_L_107 rfl (n := 3) (by decide) rfl ⟨by decide, by decide, by simp only [room_1]; omega, by simp only [room_1]; omega⟩ rfl rfl rfl (Nat.zero_le _) (fun q819_175 eq819_175 => ?_)
        show Rn K _ (100 + 16 * x3.toNat + 2) (100000 + 976 * x3.toNat + 122) _ 822 [(0, .ref b0), (1, .ref (kB K + 0)), (2, .ref (kB K + 35)), (3, vI x3)] [vI q819_175.1] (Zw (kE K) q819_175.2.1 q819_175.2.2.1 c ms rd m q819_175.2.2.2)
        refine r_aload_n (pc := 822) X 2 dL_law_822 rfl rfl ?_
        refine r_aload_n (pc := 823) X 0 dL_law_823 rfl rfl ?_
        refine r_iload_n (pc := 824) X 3 dL_law_824 rfl rfl ?_
        refine r_iconst (pc := 825) X 1 dL_law_825 (by decide) ?_
        refine r_iadd (pc := 826) X dL_law_826 ?_
        refine r_sld (pc := 827) X hXs hb0 h172 hL dL_law_827 ?_
        refine r_aload_n (pc := 828) X 0 dL_law_828 rfl rfl ?_
        refine r_iload_n (pc := 829) X 3 dL_law_829 rfl rfl ?_
        refine r_iconst (pc := 830) X 2 dL_law_830 (by decide) ?_
        refine r_iadd (pc := 831) X dL_law_831 ?_
        refine r_sld (pc := 832) X hXs hb0 h173 hL dL_law_832 ?_
        refine r_aload_n (pc := 833) X 0 dL_law_833 rfl rfl ?_
        refine r_iload_n (pc := 834) X 3 dL_law_834 rfl rfl ?_
        refine r_iconst (pc := 835) X 3 dL_law_835 (by decide) ?_
        refine r_iadd (pc := 836) X dL_law_836 ?_
        refine r_sld (pc := 837) X hXs hb0 h174 hL dL_law_837 ?_
        refine r_callV (pc := 838) (q0 := 35) (ci := 6) (As := [vI (xs (x3 + 1)), vI (xs (x3 + 2)), vI (xs (x3 + 3))]) (rest := [vI q819_175.1]) (W' := fun q838_176 => (Zw (kE K) q819_175.2.1 q819_175.2.2.1 c ms rd q838_176.2 q819_175.2.2.2)) (rv := fun q838_176 => some (vI q838_176.1)) X dL_law_838 rfl (fun a ha => c_X6_part N q819_175.2.1 q819_175.2.2.1 c ms rd m q819_175.2.2.2 (xs (x3 + 1)) (xs (x3 + 2)) (xs (x3 + 3)) K.1.2.1 K.2.2.1.1 (kE K) a ha) (fun a => Zw_d _ _ _ _ _ _ _ _) gd_L_110 rfl (n := 3) (by decide) rfl ⟨by decide, by decide, by simp only [room_1]; omega, by simp only [room_1]; omega⟩ rfl rfl rfl (by simp [z_cat, z_catR, z_catI, z_catL]) (fun q838_176 eq838_176 => ?_)
        show Rn K _ (100 + 16 * x3.toNat + 2) (100000 + 976 * x3.toNat + 122) _ 841 [(0, .ref b0), (1, .ref (kB K + 0)), (2, .ref (kB K + 35)), (3, vI x3)] [vI q838_176.1, vI q819_175.1] (Zw (kE K) q819_175.2.1 q819_175.2.2.1 c ms rd q838_176.2 q819_175.2.2.2)
        refine r_ck1 (fun h177 => ?_)
        refine r_ck1 (fun h178 => ?_)
        refine r_icmp_eq (pc := 841) X h177 h178 dL_law_841 (tgt := 1164) (by decide) (fun h179 => ?_) (fun h179 => ?_)
        · refine r_iinc (pc := 1164) (lv' := [(0, .ref b0), (1, .ref (kB K + 0)), (2, .ref (kB K + 35)), (3, vI (x3 + 5))]) X 3 [1, 2, 3, 0] dL_law_1164 rfl (by decide) rfl ?_
          refine r_goto (pc := 1167) X dL_law_1167 (tgt := 18) (by decide) ?_
          exact r_widen (c2 := 100 + 16 * (x3 + 5).toNat) (s2 := 100000 + 976 * (x3 + 5).toNat) (by omega) (by omega) (ih (x3 + 5) q819_175.2.1 q819_175.2.2.1 c ms rd q838_176.2 q819_175.2.2.2 ⟨by omega, by omega⟩)
        · exact r_none
      refine r_case (fun h180 => ?_) (fun h180 => ?_)
      · refine r_tableIn (pc := 32) X 23 h180 (by decide) dL_law_32 (by decide) rfl (tgt := 846) (by decide) ?_
        refine r_aload_n (pc := 846) X 1 dL_law_846 rfl rfl ?_
        refine r_aload_n (pc := 847) X 0 dL_law_847 rfl rfl ?_
        refine r_iload_n (pc := 848) X 3 dL_law_848 rfl rfl ?_
        refine r_iconst (pc := 849) X 1 dL_law_849 (by decide) ?_
        refine r_iadd (pc := 850) X dL_law_850 ?_
        refine r_ckA (fun h181 => ?_)
        refine r_sld (pc := 851) X hXs hb0 h181 hL dL_law_851 ?_
        refine r_aload_n (pc := 852) X 0 dL_law_852 rfl rfl ?_
        refine r_iload_n (pc := 853) X 3 dL_law_853 rfl rfl ?_
        refine r_iconst (pc := 854) X 2 dL_law_854 (by decide) ?_
        refine r_iadd (pc := 855) X dL_law_855 ?_
        refine r_ckA (fun h182 => ?_)
        refine r_sld (pc := 856) X hXs hb0 h182 hL dL_law_856 ?_
        refine r_callV (pc := 857) (q0 := 0) (ci := 5) (As := [vI (xs (x3 + 1)), vI (xs (x3 + 2))]) (rest := []) (W' := fun q857_183 => (Zw (kE K) q857_183.2 b c ms rd m P)) (rv := fun q857_183 => some (vI q857_183.1)) X dL_law_857 rfl (fun a ha => c_X5_copy N lt b c ms rd m P (xs (x3 + 1)) (xs (x3 + 2)) K.1.2.1 K.2.2.1.1 (kE K) a ha) (fun a => Zw_d _ _ _ _ _ _ _ _) gd_L_111 rfl (n := 2) (by decide) rfl ⟨by decide, by decide, by simp only [room_1]; omega, by simp only [room_1]; omega⟩ rfl rfl rfl (Nat.zero_le _) (fun q857_183 eq857_183 => ?_)
        show Rn K _ (100 + 16 * x3.toNat + 0) (100000 + 976 * x3.toNat + 0) _ 860 [(0, .ref b0), (1, .ref (kB K + 0)), (2, .ref (kB K + 35)), (3, vI x3)] [vI q857_183.1] (Zw (kE K) q857_183.2 b c ms rd m P)
        refine r_aload_n (pc := 860) X 2 dL_law_860 rfl rfl ?_
        refine r_aload_n (pc := 861) X 0 dL_law_861 rfl rfl ?_
        refine r_iload_n (pc := 862) X 3 dL_law_862 rfl rfl ?_
        refine r_iconst (pc := 863) X 1 dL_law_863 (by decide) ?_
        refine r_iadd (pc := 864) X dL_law_864 ?_
        refine r_sld (pc := 865) X hXs hb0 h181 hL dL_law_865 ?_
        refine r_aload_n (pc := 866) X 0 dL_law_866 rfl rfl ?_
        refine r_iload_n (pc := 867) X 3 dL_law_867 rfl rfl ?_
        refine r_iconst (pc := 868) X 2 dL_law_868 (by decide) ?_
        refine r_iadd (pc := 869) X dL_law_869 ?_
        refine r_sld (pc := 870) X hXs hb0 h182 hL dL_law_870 ?_
        refine r_callV (pc := 871) (q0 := 35) (ci := 6) (As := [vI (xs (x3 + 1)), vI (xs (x3 + 2))]) (rest := [vI q857_183.1]) (W' := fun q871_184 => (Zw (kE K) q857_183.2 b c ms rd q871_184.2 P)) (rv := fun q871_184 => some (vI q871_184.1)) X dL_law_871 rfl (fun a ha => c_X6_copy N q857_183.2 b c ms rd m P (xs (x3 + 1)) (xs (x3 + 2)) K.1.2.1 K.2.2.1.1 (kE K) a ha) (fun a => Zw_d _ _ _ _ _ _ _ _) gd_L_114 rfl (n := 2) (by decide) rfl ⟨by decide, by decide, by simp only [room_1]; omega, by simp only [room_1]; omega⟩ rfl rfl rfl (by simp [z_cat, z_catR, z_catI, z_catL]) (fun q871_184 eq871_184 => ?_)
        show Rn K _ (100 + 16 * x3.toNat + 0) (100000 + 976 * x3.toNat + 0) _ 874 [(0, .ref b0), (1, .ref (kB K + 0)), (2, .ref (kB K + 35)), (3, vI x3)] [vI q871_184.1, vI q857_183.1] (Zw (kE K) q857_183.2 b c ms rd q871_184.2 P)
        refine r_ck1 (fun h185 => ?_)
        refine r_ck1 (fun h186 => ?_)
        refine r_icmp_eq (pc := 874) X h185 h186 dL_law_874 (tgt := 1164) (by decide) (fun h187 => ?_) (fun h187 => ?_)
        · refine r_iinc (pc := 1164) (lv' := [(0, .ref b0), (1, .ref (kB K + 0)), (2, .ref (kB K + 35)), (3, vI (x3 + 5))]) X 3 [1, 2, 3, 0] dL_law_1164 rfl (by decide) rfl ?_
          refine r_goto (pc := 1167) X dL_law_1167 (tgt := 18) (by decide) ?_
          exact r_widen (c2 := 100 + 16 * (x3 + 5).toNat) (s2 := 100000 + 976 * (x3 + 5).toNat) (by omega) (by omega) (ih (x3 + 5) q857_183.2 b c ms rd q871_184.2 P ⟨by omega, by omega⟩)
        · exact r_none
      refine r_case (fun h188 => ?_) (fun h188 => ?_)
      · refine r_tableIn (pc := 32) X 24 h188 (by decide) dL_law_32 (by decide) rfl (tgt := 879) (by decide) ?_
        refine r_aload_n (pc := 879) X 1 dL_law_879 rfl rfl ?_
        refine r_aload_n (pc := 880) X 0 dL_law_880 rfl rfl ?_
        refine r_iload_n (pc := 881) X 3 dL_law_881 rfl rfl ?_
        refine r_iconst (pc := 882) X 1 dL_law_882 (by decide) ?_
        refine r_iadd (pc := 883) X dL_law_883 ?_
        refine r_ckA (fun h189 => ?_)
        refine r_sld (pc := 884) X hXs hb0 h189 hL dL_law_884 ?_
        refine r_aload_n (pc := 885) X 0 dL_law_885 rfl rfl ?_
        refine r_iload_n (pc := 886) X 3 dL_law_886 rfl rfl ?_
        refine r_iconst (pc := 887) X 2 dL_law_887 (by decide) ?_
        refine r_iadd (pc := 888) X dL_law_888 ?_
        refine r_ckA (fun h190 => ?_)
        refine r_sld (pc := 889) X hXs hb0 h190 hL dL_law_889 ?_
        refine r_aload_n (pc := 890) X 0 dL_law_890 rfl rfl ?_
        refine r_iload_n (pc := 891) X 3 dL_law_891 rfl rfl ?_
        refine r_iconst (pc := 892) X 3 dL_law_892 (by decide) ?_
        refine r_iadd (pc := 893) X dL_law_893 ?_
        refine r_ckA (fun h191 => ?_)
        refine r_sld (pc := 894) X hXs hb0 h191 hL dL_law_894 ?_
        refine r_aload_n (pc := 895) X 0 dL_law_895 rfl rfl ?_
        refine r_iload_n (pc := 896) X 3 dL_law_896 rfl rfl ?_
        refine r_iconst (pc := 897) X 4 dL_law_897 (by decide) ?_
        refine r_iadd (pc := 898) X dL_law_898 ?_
        refine r_ckA (fun h192 => ?_)
        refine r_sld (pc := 899) X hXs hb0 h192 hL dL_law_899 ?_
        refine r_callV (pc := 900) (q0 := 0) (ci := 5) (As := [vI (xs (x3 + 1)), vI (xs (x3 + 2)), vI (xs (x3 + 3)), vI (xs (x3 + 4))]) (rest := []) (W' := fun q900_193 => (Zw (kE K) q900_193.2.1 q900_193.2.2.1 q900_193.2.2.2.1 ms rd m q900_193.2.2.2.2)) (rv := fun q900_193 => some (vI q900_193.1)) X dL_law_900 rfl (fun a ha => c_X5_bound N lt b c ms rd m P (xs (x3 + 1)) (xs (x3 + 2)) (xs (x3 + 3)) (xs (x3 + 4)) K.1.2.1 K.2.2.1.1 (kE K) a ha) (fun a => Zw_d _ _ _ _ _ _ _ _) gd_L_115 rfl (n := 4) (by decide) rfl ⟨by decide, by decide, by simp only [room_1]; omega, by simp only [room_1]; omega⟩ rfl rfl rfl (Nat.zero_le _) (fun q900_193 eq900_193 => ?_)
        show Rn K _ (100 + 16 * x3.toNat + 2) (100000 + 976 * x3.toNat + 122) _ 903 [(0, .ref b0), (1, .ref (kB K + 0)), (2, .ref (kB K + 35)), (3, vI x3)] [vI q900_193.1] (Zw (kE K) q900_193.2.1 q900_193.2.2.1 q900_193.2.2.2.1 ms rd m q900_193.2.2.2.2)
        refine r_aload_n (pc := 903) X 2 dL_law_903 rfl rfl ?_
        refine r_aload_n (pc := 904) X 0 dL_law_904 rfl rfl ?_
        refine r_iload_n (pc := 905) X 3 dL_law_905 rfl rfl ?_
        refine r_iconst (pc := 906) X 1 dL_law_906 (by decide) ?_
        refine r_iadd (pc := 907) X dL_law_907 ?_
        refine r_sld (pc := 908) X hXs hb0 h189 hL dL_law_908 ?_
        refine r_aload_n (pc := 909) X 0 dL_law_909 rfl rfl ?_
        refine r_iload_n (pc := 910) X 3 dL_law_910 rfl rfl ?_
        refine r_iconst (pc := 911) X 2 dL_law_911 (by decide) ?_
        refine r_iadd (pc := 912) X dL_law_912 ?_
        refine r_sld (pc := 913) X hXs hb0 h190 hL dL_law_913 ?_
        refine r_aload_n (pc := 914) X 0 dL_law_914 rfl rfl ?_
        refine r_iload_n (pc := 915) X 3 dL_law_915 rfl rfl ?_
        refine r_iconst (pc := 916) X 3 dL_law_916 (by decide) ?_
        refine r_iadd (pc := 917) X dL_law_917 ?_
        refine r_sld (pc := 918) X hXs hb0 h191 hL dL_law_918 ?_
        refine r_aload_n (pc := 919) X 0 dL_law_919 rfl rfl ?_
        refine r_iload_n (pc := 920) X 3 dL_law_920 rfl rfl ?_
        refine r_iconst (pc := 921) X 4 dL_law_921 (by decide) ?_
        refine r_iadd (pc := 922) X dL_law_922 ?_
        refine r_sld (pc := 923) X hXs hb0 h192 hL dL_law_923 ?_
        refine r_callV (pc := 924) (q0 := 35) (ci := 6) (As := [vI (xs (x3 + 1)), vI (xs (x3 + 2)), vI (xs (x3 + 3)), vI (xs (x3 + 4))]) (rest := [vI q900_193.1]) (W' := fun q924_194 => (Zw (kE K) q900_193.2.1 q900_193.2.2.1 q900_193.2.2.2.1 ms rd q924_194.2 q900_193.2.2.2.2)) (rv := fun q924_194 => some (vI q924_194.1)) X dL_law_924 rfl (fun a ha => c_X6_bound N q900_193.2.1 q900_193.2.2.1 q900_193.2.2.2.1 ms rd m q900_193.2.2.2.2 (xs (x3 + 1)) (xs (x3 + 2)) (xs (x3 + 3)) (xs (x3 + 4)) K.1.2.1 K.2.2.1.1 (kE K) a ha) (fun a => Zw_d _ _ _ _ _ _ _ _) gd_L_118 rfl (n := 4) (by decide) rfl ⟨by decide, by decide, by simp only [room_1]; omega, by simp only [room_1]; omega⟩ rfl rfl rfl (by simp [z_cat, z_catR, z_catI, z_catL]) (fun q924_194 eq924_194 => ?_)
        show Rn K _ (100 + 16 * x3.toNat + 2) (100000 + 976 * x3.toNat + 122) _ 927 [(0, .ref b0), (1, .ref (kB K + 0)), (2, .ref (kB K + 35)), (3, vI x3)] [vI q924_194.1, vI q900_193.1] (Zw (kE K) q900_193.2.1 q900_193.2.2.1 q900_193.2.2.2.1 ms rd q924_194.2 q900_193.2.2.2.2)
        refine r_ck1 (fun h195 => ?_)
        refine r_ck1 (fun h196 => ?_)
        refine r_icmp_eq (pc := 927) X h195 h196 dL_law_927 (tgt := 1164) (by decide) (fun h197 => ?_) (fun h197 => ?_)
        · refine r_iinc (pc := 1164) (lv' := [(0, .ref b0), (1, .ref (kB K + 0)), (2, .ref (kB K + 35)), (3, vI (x3 + 5))]) X 3 [1, 2, 3, 0] dL_law_1164 rfl (by decide) rfl ?_
          refine r_goto (pc := 1167) X dL_law_1167 (tgt := 18) (by decide) ?_
          exact r_widen (c2 := 100 + 16 * (x3 + 5).toNat) (s2 := 100000 + 976 * (x3 + 5).toNat) (by omega) (by omega) (ih (x3 + 5) q900_193.2.1 q900_193.2.2.1 q900_193.2.2.2.1 ms rd q924_194.2 q900_193.2.2.2.2 ⟨by omega, by omega⟩)
        · exact r_none
      refine r_case (fun h198 => ?_) (fun h198 => ?_)
      · refine r_tableIn (pc := 32) X 25 h198 (by decide) dL_law_32 (by decide) rfl (tgt := 932) (by decide) ?_
        refine r_aload_n (pc := 932) X 1 dL_law_932 rfl rfl ?_
        refine r_aload_n (pc := 933) X 0 dL_law_933 rfl rfl ?_
        refine r_iload_n (pc := 934) X 3 dL_law_934 rfl rfl ?_
        refine r_iconst (pc := 935) X 1 dL_law_935 (by decide) ?_
        refine r_iadd (pc := 936) X dL_law_936 ?_
        refine r_ckA (fun h199 => ?_)
        refine r_sld (pc := 937) X hXs hb0 h199 hL dL_law_937 ?_
        refine r_aload_n (pc := 938) X 0 dL_law_938 rfl rfl ?_
        refine r_iload_n (pc := 939) X 3 dL_law_939 rfl rfl ?_
        refine r_iconst (pc := 940) X 2 dL_law_940 (by decide) ?_
        refine r_iadd (pc := 941) X dL_law_941 ?_
        refine r_ckA (fun h200 => ?_)
        refine r_sld (pc := 942) X hXs hb0 h200 hL dL_law_942 ?_
        refine r_aload_n (pc := 943) X 0 dL_law_943 rfl rfl ?_
        refine r_iload_n (pc := 944) X 3 dL_law_944 rfl rfl ?_
        refine r_iconst (pc := 945) X 3 dL_law_945 (by decide) ?_
        refine r_iadd (pc := 946) X dL_law_946 ?_
        refine r_ckA (fun h201 => ?_)
        refine r_sld (pc := 947) X hXs hb0 h201 hL dL_law_947 ?_
        refine r_aload_n (pc := 948) X 0 dL_law_948 rfl rfl ?_
        refine r_iload_n (pc := 949) X 3 dL_law_949 rfl rfl ?_
        refine r_iconst (pc := 950) X 4 dL_law_950 (by decide) ?_
        refine r_iadd (pc := 951) X dL_law_951 ?_
        refine r_ckA (fun h202 => ?_)
        refine r_sld (pc := 952) X hXs hb0 h202 hL dL_law_952 ?_
        refine r_callV (pc := 953) (q0 := 0) (ci := 5) (As := [vI (xs (x3 + 1)), vI (xs (x3 + 2)), vI (xs (x3 + 3)), vI (xs (x3 + 4))]) (rest := []) (W' := fun q953_203 => (Zw (kE K) q953_203.2.1 q953_203.2.2.1 c q953_203.2.2.2.1 rd m q953_203.2.2.2.2)) (rv := fun q953_203 => some (vI q953_203.1)) X dL_law_953 rfl (fun a ha => c_X5_swap N lt b c ms rd m P (xs (x3 + 1)) (xs (x3 + 2)) (xs (x3 + 3)) (xs (x3 + 4)) K.1.2.1 K.2.2.1.1 (kE K) a ha) (fun a => Zw_d _ _ _ _ _ _ _ _) gd_L_119 rfl (n := 4) (by decide) rfl ⟨by decide, by decide, by simp only [room_1]; omega, by simp only [room_1]; omega⟩ rfl rfl rfl (Nat.zero_le _) (fun q953_203 eq953_203 => ?_)
        show Rn K _ (100 + 16 * x3.toNat + 2) (100000 + 976 * x3.toNat + 122) _ 956 [(0, .ref b0), (1, .ref (kB K + 0)), (2, .ref (kB K + 35)), (3, vI x3)] [vI q953_203.1] (Zw (kE K) q953_203.2.1 q953_203.2.2.1 c q953_203.2.2.2.1 rd m q953_203.2.2.2.2)
        refine r_aload_n (pc := 956) X 2 dL_law_956 rfl rfl ?_
        refine r_aload_n (pc := 957) X 0 dL_law_957 rfl rfl ?_
        refine r_iload_n (pc := 958) X 3 dL_law_958 rfl rfl ?_
        refine r_iconst (pc := 959) X 1 dL_law_959 (by decide) ?_
        refine r_iadd (pc := 960) X dL_law_960 ?_
        refine r_sld (pc := 961) X hXs hb0 h199 hL dL_law_961 ?_
        refine r_aload_n (pc := 962) X 0 dL_law_962 rfl rfl ?_
        refine r_iload_n (pc := 963) X 3 dL_law_963 rfl rfl ?_
        refine r_iconst (pc := 964) X 2 dL_law_964 (by decide) ?_
        refine r_iadd (pc := 965) X dL_law_965 ?_
        refine r_sld (pc := 966) X hXs hb0 h200 hL dL_law_966 ?_
        refine r_aload_n (pc := 967) X 0 dL_law_967 rfl rfl ?_
        refine r_iload_n (pc := 968) X 3 dL_law_968 rfl rfl ?_
        refine r_iconst (pc := 969) X 3 dL_law_969 (by decide) ?_
        refine r_iadd (pc := 970) X dL_law_970 ?_
        refine r_sld (pc := 971) X hXs hb0 h201 hL dL_law_971 ?_
        refine r_aload_n (pc := 972) X 0 dL_law_972 rfl rfl ?_
        refine r_iload_n (pc := 973) X 3 dL_law_973 rfl rfl ?_
        refine r_iconst (pc := 974) X 4 dL_law_974 (by decide) ?_
        refine r_iadd (pc := 975) X dL_law_975 ?_
        refine r_sld (pc := 976) X hXs hb0 h202 hL dL_law_976 ?_
        refine r_callV (pc := 977) (q0 := 35) (ci := 6) (As := [vI (xs (x3 + 1)), vI (xs (x3 + 2)), vI (xs (x3 + 3)), vI (xs (x3 + 4))]) (rest := [vI q953_203.1]) (W' := fun q977_204 => (Zw (kE K) q953_203.2.1 q953_203.2.2.1 c q953_203.2.2.2.1 rd q977_204.2 q953_203.2.2.2.2)) (rv := fun q977_204 => some (vI q977_204.1)) X dL_law_977 rfl (fun a ha => c_X6_swap N q953_203.2.1 q953_203.2.2.1 c q953_203.2.2.2.1 rd m q953_203.2.2.2.2 (xs (x3 + 1)) (xs (x3 + 2)) (xs (x3 + 3)) (xs (x3 + 4)) K.1.2.1 K.2.2.1.1 (kE K) a ha) (fun a => Zw_d _ _ _ _ _ _ _ _) gd_L_122 rfl (n := 4) (by decide) rfl ⟨by decide, by decide, by simp only [room_1]; omega, by simp only [room_1]; omega⟩ rfl rfl rfl (by simp [z_cat, z_catR, z_catI, z_catL]) (fun q977_204 eq977_204 => ?_)
        show Rn K _ (100 + 16 * x3.toNat + 2) (100000 + 976 * x3.toNat + 122) _ 980 [(0, .ref b0), (1, .ref (kB K + 0)), (2, .ref (kB K + 35)), (3, vI x3)] [vI q977_204.1, vI q953_203.1] (Zw (kE K) q953_203.2.1 q953_203.2.2.1 c q953_203.2.2.2.1 rd q977_204.2 q953_203.2.2.2.2)
        refine r_ck1 (fun h205 => ?_)
        refine r_ck1 (fun h206 => ?_)
        refine r_icmp_eq (pc := 980) X h205 h206 dL_law_980 (tgt := 1164) (by decide) (fun h207 => ?_) (fun h207 => ?_)
        · refine r_iinc (pc := 1164) (lv' := [(0, .ref b0), (1, .ref (kB K + 0)), (2, .ref (kB K + 35)), (3, vI (x3 + 5))]) X 3 [1, 2, 3, 0] dL_law_1164 rfl (by decide) rfl ?_
          refine r_goto (pc := 1167) X dL_law_1167 (tgt := 18) (by decide) ?_
          exact r_widen (c2 := 100 + 16 * (x3 + 5).toNat) (s2 := 100000 + 976 * (x3 + 5).toNat) (by omega) (by omega) (ih (x3 + 5) q953_203.2.1 q953_203.2.2.1 c q953_203.2.2.2.1 rd q977_204.2 q953_203.2.2.2.2 ⟨by omega, by omega⟩)
        · exact r_none
      refine r_case (fun h208 => ?_) (fun h208 => ?_)
      · refine r_tableIn (pc := 32) X 26 h208 (by decide) dL_law_32 (by decide) rfl (tgt := 985) (by decide) ?_
        refine r_aload_n (pc := 985) X 1 dL_law_985 rfl rfl ?_
        refine r_aload_n (pc := 986) X 0 dL_law_986 rfl rfl ?_
        refine r_iload_n (pc := 987) X 3 dL_law_987 rfl rfl ?_
        refine r_iconst (pc := 988) X 1 dL_law_988 (by decide) ?_
        refine r_iadd (pc := 989) X dL_law_989 ?_
        refine r_ckA (fun h209 => ?_)
        refine r_sld (pc := 990) X hXs hb0 h209 hL dL_law_990 ?_
        refine r_aload_n (pc := 991) X 0 dL_law_991 rfl rfl ?_
        refine r_iload_n (pc := 992) X 3 dL_law_992 rfl rfl ?_
        refine r_iconst (pc := 993) X 2 dL_law_993 (by decide) ?_
        refine r_iadd (pc := 994) X dL_law_994 ?_
        refine r_ckA (fun h210 => ?_)
        refine r_sld (pc := 995) X hXs hb0 h210 hL dL_law_995 ?_
        refine r_aload_n (pc := 996) X 0 dL_law_996 rfl rfl ?_
        refine r_iload_n (pc := 997) X 3 dL_law_997 rfl rfl ?_
        refine r_iconst (pc := 998) X 3 dL_law_998 (by decide) ?_
        refine r_iadd (pc := 999) X dL_law_999 ?_
        refine r_ckA (fun h211 => ?_)
        refine r_sld (pc := 1000) X hXs hb0 h211 hL dL_law_1000 ?_
        refine r_callV (pc := 1001) (q0 := 0) (ci := 5) (As := [vI (xs (x3 + 1)), vI (xs (x3 + 2)), vI (xs (x3 + 3))]) (rest := []) (W' := fun q1001_212 => (Zw (kE K) q1001_212.2.1 q1001_212.2.2.1 c ms rd m q1001_212.2.2.2)) (rv := fun q1001_212 => some (vI q1001_212.1)) X dL_law_1001 rfl (fun a ha => c_X5_cut N lt b c ms rd m P (xs (x3 + 1)) (xs (x3 + 2)) (xs (x3 + 3)) K.1.2.1 K.2.2.1.1 (kE K) a ha) (fun a => Zw_d _ _ _ _ _ _ _ _) gd_L_123 rfl (n := 3) (by decide) rfl ⟨by decide, by decide, by simp only [room_1]; omega, by simp only [room_1]; omega⟩ rfl rfl rfl (Nat.zero_le _) (fun q1001_212 eq1001_212 => ?_)
        show Rn K _ (100 + 16 * x3.toNat + 2) (100000 + 976 * x3.toNat + 122) _ 1004 [(0, .ref b0), (1, .ref (kB K + 0)), (2, .ref (kB K + 35)), (3, vI x3)] [vI q1001_212.1] (Zw (kE K) q1001_212.2.1 q1001_212.2.2.1 c ms rd m q1001_212.2.2.2)
        refine r_aload_n (pc := 1004) X 2 dL_law_1004 rfl rfl ?_
        refine r_aload_n (pc := 1005) X 0 dL_law_1005 rfl rfl ?_
        refine r_iload_n (pc := 1006) X 3 dL_law_1006 rfl rfl ?_
        refine r_iconst (pc := 1007) X 1 dL_law_1007 (by decide) ?_
        refine r_iadd (pc := 1008) X dL_law_1008 ?_
        refine r_sld (pc := 1009) X hXs hb0 h209 hL dL_law_1009 ?_
        refine r_aload_n (pc := 1010) X 0 dL_law_1010 rfl rfl ?_
        refine r_iload_n (pc := 1011) X 3 dL_law_1011 rfl rfl ?_
        refine r_iconst (pc := 1012) X 2 dL_law_1012 (by decide) ?_
        refine r_iadd (pc := 1013) X dL_law_1013 ?_
        refine r_sld (pc := 1014) X hXs hb0 h210 hL dL_law_1014 ?_
        refine r_aload_n (pc := 1015) X 0 dL_law_1015 rfl rfl ?_
        refine r_iload_n (pc := 1016) X 3 dL_law_1016 rfl rfl ?_
        refine r_iconst (pc := 1017) X 3 dL_law_1017 (by decide) ?_
        refine r_iadd (pc := 1018) X dL_law_1018 ?_
        refine r_sld (pc := 1019) X hXs hb0 h211 hL dL_law_1019 ?_
        refine r_callV (pc := 1020) (q0 := 35) (ci := 6) (As := [vI (xs (x3 + 1)), vI (xs (x3 + 2)), vI (xs (x3 + 3))]) (rest := [vI q1001_212.1]) (W' := fun q1020_213 => (Zw (kE K) q1001_212.2.1 q1001_212.2.2.1 c ms rd q1020_213.2 q1001_212.2.2.2)) (rv := fun q1020_213 => some (vI q1020_213.1)) X dL_law_1020 rfl (fun a ha => c_X6_cut N q1001_212.2.1 q1001_212.2.2.1 c ms rd m q1001_212.2.2.2 (xs (x3 + 1)) (xs (x3 + 2)) (xs (x3 + 3)) K.1.2.1 K.2.2.1.1 (kE K) a ha) (fun a => Zw_d _ _ _ _ _ _ _ _) gd_L_126 rfl (n := 3) (by decide) rfl ⟨by decide, by decide, by simp only [room_1]; omega, by simp only [room_1]; omega⟩ rfl rfl rfl (by simp [z_cat, z_catR, z_catI, z_catL]) (fun q1020_213 eq1020_213 => ?_)
        show Rn K _ (100 + 16 * x3.toNat + 2) (100000 + 976 * x3.toNat + 122) _ 1023 [(0, .ref b0), (1, .ref (kB K + 0)), (2, .ref (kB K + 35)), (3, vI x3)] [vI q1020_213.1, vI q1001_212.1] (Zw (kE K) q1001_212.2.1 q1001_212.2.2.1 c ms rd q1020_213.2 q1001_212.2.2.2)
        refine r_ck1 (fun h214 => ?_)
        refine r_ck1 (fun h215 => ?_)
        refine r_icmp_eq (pc := 1023) X h214 h215 dL_law_1023 (tgt := 1164) (by decide) (fun h216 => ?_) (fun h216 => ?_)
        · refine r_iinc (pc := 1164) (lv' := [(0, .ref b0), (1, .ref (kB K + 0)), (2, .ref (kB K + 35)), (3, vI (x3 + 5))]) X 3 [1, 2, 3, 0] dL_law_1164 rfl (by decide) rfl ?_
          refine r_goto (pc := 1167) X dL_law_1167 (tgt := 18) (by decide) ?_
          exact r_widen (c2 := 100 + 16 * (x3 + 5).toNat) (s2 := 100000 + 976 * (x3 + 5).toNat) (by omega) (by omega) (ih (x3 + 5) q1001_212.2.1 q1001_212.2.2.1 c ms rd q1020_213.2 q1001_212.2.2.2 ⟨by omega, by omega⟩)
        · exact r_none
      refine r_case (fun h217 => ?_) (fun h217 => ?_)
      · refine r_tableIn (pc := 32) X 27 h217 (by decide) dL_law_32 (by decide) rfl (tgt := 1028) (by decide) ?_
        refine r_aload_n (pc := 1028) X 1 dL_law_1028 rfl rfl ?_
        refine r_aload_n (pc := 1029) X 0 dL_law_1029 rfl rfl ?_
        refine r_iload_n (pc := 1030) X 3 dL_law_1030 rfl rfl ?_
        refine r_iconst (pc := 1031) X 1 dL_law_1031 (by decide) ?_
        refine r_iadd (pc := 1032) X dL_law_1032 ?_
        refine r_ckA (fun h218 => ?_)
        refine r_sld (pc := 1033) X hXs hb0 h218 hL dL_law_1033 ?_
        refine r_aload_n (pc := 1034) X 0 dL_law_1034 rfl rfl ?_
        refine r_iload_n (pc := 1035) X 3 dL_law_1035 rfl rfl ?_
        refine r_iconst (pc := 1036) X 2 dL_law_1036 (by decide) ?_
        refine r_iadd (pc := 1037) X dL_law_1037 ?_
        refine r_ckA (fun h219 => ?_)
        refine r_sld (pc := 1038) X hXs hb0 h219 hL dL_law_1038 ?_
        refine r_aload_n (pc := 1039) X 0 dL_law_1039 rfl rfl ?_
        refine r_iload_n (pc := 1040) X 3 dL_law_1040 rfl rfl ?_
        refine r_iconst (pc := 1041) X 3 dL_law_1041 (by decide) ?_
        refine r_iadd (pc := 1042) X dL_law_1042 ?_
        refine r_ckA (fun h220 => ?_)
        refine r_sld (pc := 1043) X hXs hb0 h220 hL dL_law_1043 ?_
        refine r_callV (pc := 1044) (q0 := 0) (ci := 5) (As := [vI (xs (x3 + 1)), vI (xs (x3 + 2)), vI (xs (x3 + 3))]) (rest := []) (W' := fun q1044_221 => (Zw (kE K) q1044_221.2.1 q1044_221.2.2.1 c ms rd m q1044_221.2.2.2)) (rv := fun q1044_221 => some (vI q1044_221.1)) X dL_law_1044 rfl (fun a ha => c_X5_turn N lt b c ms rd m P (xs (x3 + 1)) (xs (x3 + 2)) (xs (x3 + 3)) K.1.2.1 K.2.2.1.1 (kE K) a ha) (fun a => Zw_d _ _ _ _ _ _ _ _) gd_L_127 rfl (n := 3) (by decide) rfl ⟨by decide, by decide, by simp only [room_1]; omega, by simp only [room_1]; omega⟩ rfl rfl rfl (Nat.zero_le _) (fun q1044_221 eq1044_221 => ?_)
        show Rn K _ (100 + 16 * x3.toNat + 2) (100000 + 976 * x3.toNat + 122) _ 1047 [(0, .ref b0), (1, .ref (kB K + 0)), (2, .ref (kB K + 35)), (3, vI x3)] [vI q1044_221.1] (Zw (kE K) q1044_221.2.1 q1044_221.2.2.1 c ms rd m q1044_221.2.2.2)
        refine r_aload_n (pc := 1047) X 2 dL_law_1047 rfl rfl ?_
        refine r_aload_n (pc := 1048) X 0 dL_law_1048 rfl rfl ?_
        refine r_iload_n (pc := 1049) X 3 dL_law_1049 rfl rfl ?_
        refine r_iconst (pc := 1050) X 1 dL_law_1050 (by decide) ?_
        refine r_iadd (pc := 1051) X dL_law_1051 ?_
        refine r_sld (pc := 1052) X hXs hb0 h218 hL dL_law_1052 ?_
        refine r_aload_n (pc := 1053) X 0 dL_law_1053 rfl rfl ?_
        refine r_iload_n (pc := 1054) X 3 dL_law_1054 rfl rfl ?_
        refine r_iconst (pc := 1055) X 2 dL_law_1055 (by decide) ?_
        refine r_iadd (pc := 1056) X dL_law_1056 ?_
        refine r_sld (pc := 1057) X hXs hb0 h219 hL dL_law_1057 ?_
        refine r_aload_n (pc := 1058) X 0 dL_law_1058 rfl rfl ?_
        refine r_iload_n (pc := 1059) X 3 dL_law_1059 rfl rfl ?_
        refine r_iconst (pc := 1060) X 3 dL_law_1060 (by decide) ?_
        refine r_iadd (pc := 1061) X dL_law_1061 ?_
        refine r_sld (pc := 1062) X hXs hb0 h220 hL dL_law_1062 ?_
        refine r_callV (pc := 1063) (q0 := 35) (ci := 6) (As := [vI (xs (x3 + 1)), vI (xs (x3 + 2)), vI (xs (x3 + 3))]) (rest := [vI q1044_221.1]) (W' := fun q1063_222 => (Zw (kE K) q1044_221.2.1 q1044_221.2.2.1 c ms rd q1063_222.2 q1044_221.2.2.2)) (rv := fun q1063_222 => some (vI q1063_222.1)) X dL_law_1063 rfl (fun a ha => c_X6_turn N q1044_221.2.1 q1044_221.2.2.1 c ms rd m q1044_221.2.2.2 (xs (x3 + 1)) (xs (x3 + 2)) (xs (x3 + 3)) K.1.2.1 K.2.2.1.1 (kE K) a ha) (fun a => Zw_d _ _ _ _ _ _ _ _) gd_L_130 rfl (n := 3) (by decide) rfl ⟨by decide, by decide, by simp only [room_1]; omega, by simp only [room_1]; omega⟩ rfl rfl rfl (by simp [z_cat, z_catR, z_catI, z_catL]) (fun q1063_222 eq1063_222 => ?_)
        show Rn K _ (100 + 16 * x3.toNat + 2) (100000 + 976 * x3.toNat + 122) _ 1066 [(0, .ref b0), (1, .ref (kB K + 0)), (2, .ref (kB K + 35)), (3, vI x3)] [vI q1063_222.1, vI q1044_221.1] (Zw (kE K) q1044_221.2.1 q1044_221.2.2.1 c ms rd q1063_222.2 q1044_221.2.2.2)
        refine r_ck1 (fun h223 => ?_)
        refine r_ck1 (fun h224 => ?_)
        refine r_icmp_eq (pc := 1066) X h223 h224 dL_law_1066 (tgt := 1164) (by decide) (fun h225 => ?_) (fun h225 => ?_)
        · refine r_iinc (pc := 1164) (lv' := [(0, .ref b0), (1, .ref (kB K + 0)), (2, .ref (kB K + 35)), (3, vI (x3 + 5))]) X 3 [1, 2, 3, 0] dL_law_1164 rfl (by decide) rfl ?_
          refine r_goto (pc := 1167) X dL_law_1167 (tgt := 18) (by decide) ?_
          exact r_widen (c2 := 100 + 16 * (x3 + 5).toNat) (s2 := 100000 + 976 * (x3 + 5).toNat) (by omega) (by omega) (ih (x3 + 5) q1044_221.2.1 q1044_221.2.2.1 c ms rd q1063_222.2 q1044_221.2.2.2 ⟨by omega, by omega⟩)
        · exact r_none
      refine r_case (fun h226 => ?_) (fun h226 => ?_)
      · refine r_tableIn (pc := 32) X 28 h226 (by decide) dL_law_32 (by decide) rfl (tgt := 1071) (by decide) ?_
        refine r_aload_n (pc := 1071) X 1 dL_law_1071 rfl rfl ?_
        refine r_aload_n (pc := 1072) X 0 dL_law_1072 rfl rfl ?_
        refine r_iload_n (pc := 1073) X 3 dL_law_1073 rfl rfl ?_
        refine r_iconst (pc := 1074) X 1 dL_law_1074 (by decide) ?_
        refine r_iadd (pc := 1075) X dL_law_1075 ?_
        refine r_ckA (fun h227 => ?_)
        refine r_sld (pc := 1076) X hXs hb0 h227 hL dL_law_1076 ?_
        refine r_aload_n (pc := 1077) X 0 dL_law_1077 rfl rfl ?_
        refine r_iload_n (pc := 1078) X 3 dL_law_1078 rfl rfl ?_
        refine r_iconst (pc := 1079) X 2 dL_law_1079 (by decide) ?_
        refine r_iadd (pc := 1080) X dL_law_1080 ?_
        refine r_ckA (fun h228 => ?_)
        refine r_sld (pc := 1081) X hXs hb0 h228 hL dL_law_1081 ?_
        refine r_aload_n (pc := 1082) X 0 dL_law_1082 rfl rfl ?_
        refine r_iload_n (pc := 1083) X 3 dL_law_1083 rfl rfl ?_
        refine r_iconst (pc := 1084) X 3 dL_law_1084 (by decide) ?_
        refine r_iadd (pc := 1085) X dL_law_1085 ?_
        refine r_ckA (fun h229 => ?_)
        refine r_sld (pc := 1086) X hXs hb0 h229 hL dL_law_1086 ?_
        refine r_callV (pc := 1087) (q0 := 0) (ci := 5) (As := [vI (xs (x3 + 1)), vI (xs (x3 + 2)), vI (xs (x3 + 3))]) (rest := []) (W' := fun q1087_230 => (Zw (kE K) q1087_230.2.1 q1087_230.2.2.1 c ms rd m q1087_230.2.2.2)) (rv := fun q1087_230 => some (vI q1087_230.1)) X dL_law_1087 rfl (fun a ha => c_X5_draw N lt b c ms rd m P (xs (x3 + 1)) (xs (x3 + 2)) (xs (x3 + 3)) K.1.2.1 K.2.2.1.1 (kE K) a ha) (fun a => Zw_d _ _ _ _ _ _ _ _) gd_L_131 rfl (n := 3) (by decide) rfl ⟨by decide, by decide, by simp only [room_1]; omega, by simp only [room_1]; omega⟩ rfl rfl rfl (Nat.zero_le _) (fun q1087_230 eq1087_230 => ?_)
        show Rn K _ (100 + 16 * x3.toNat + 2) (100000 + 976 * x3.toNat + 122) _ 1090 [(0, .ref b0), (1, .ref (kB K + 0)), (2, .ref (kB K + 35)), (3, vI x3)] [vI q1087_230.1] (Zw (kE K) q1087_230.2.1 q1087_230.2.2.1 c ms rd m q1087_230.2.2.2)
        refine r_aload_n (pc := 1090) X 2 dL_law_1090 rfl rfl ?_
        refine r_aload_n (pc := 1091) X 0 dL_law_1091 rfl rfl ?_
        refine r_iload_n (pc := 1092) X 3 dL_law_1092 rfl rfl ?_
        refine r_iconst (pc := 1093) X 1 dL_law_1093 (by decide) ?_
        refine r_iadd (pc := 1094) X dL_law_1094 ?_
        refine r_sld (pc := 1095) X hXs hb0 h227 hL dL_law_1095 ?_
        refine r_aload_n (pc := 1096) X 0 dL_law_1096 rfl rfl ?_
        refine r_iload_n (pc := 1097) X 3 dL_law_1097 rfl rfl ?_
        refine r_iconst (pc := 1098) X 2 dL_law_1098 (by decide) ?_
        refine r_iadd (pc := 1099) X dL_law_1099 ?_
        refine r_sld (pc := 1100) X hXs hb0 h228 hL dL_law_1100 ?_
        refine r_aload_n (pc := 1101) X 0 dL_law_1101 rfl rfl ?_
        refine r_iload_n (pc := 1102) X 3 dL_law_1102 rfl rfl ?_
        refine r_iconst (pc := 1103) X 3 dL_law_1103 (by decide) ?_
        refine r_iadd (pc := 1104) X dL_law_1104 ?_
        refine r_sld (pc := 1105) X hXs hb0 h229 hL dL_law_1105 ?_
        refine r_callV (pc := 1106) (q0 := 35) (ci := 6) (As := [vI (xs (x3 + 1)), vI (xs (x3 + 2)), vI (xs (x3 + 3))]) (rest := [vI q1087_230.1]) (W' := fun q1106_231 => (Zw (kE K) q1087_230.2.1 q1087_230.2.2.1 c ms rd q1106_231.2 q1087_230.2.2.2)) (rv := fun q1106_231 => some (vI q1106_231.1)) X dL_law_1106 rfl (fun a ha => c_X6_draw N q1087_230.2.1 q1087_230.2.2.1 c ms rd m q1087_230.2.2.2 (xs (x3 + 1)) (xs (x3 + 2)) (xs (x3 + 3)) K.1.2.1 K.2.2.1.1 (kE K) a ha) (fun a => Zw_d _ _ _ _ _ _ _ _) gd_L_134 rfl (n := 3) (by decide) rfl ⟨by decide, by decide, by simp only [room_1]; omega, by simp only [room_1]; omega⟩ rfl rfl rfl (by simp [z_cat, z_catR, z_catI, z_catL]) (fun q1106_231 eq1106_231 => ?_)
        show Rn K _ (100 + 16 * x3.toNat + 2) (100000 + 976 * x3.toNat + 122) _ 1109 [(0, .ref b0), (1, .ref (kB K + 0)), (2, .ref (kB K + 35)), (3, vI x3)] [vI q1106_231.1, vI q1087_230.1] (Zw (kE K) q1087_230.2.1 q1087_230.2.2.1 c ms rd q1106_231.2 q1087_230.2.2.2)
        refine r_ck1 (fun h232 => ?_)
        refine r_ck1 (fun h233 => ?_)
        refine r_icmp_eq (pc := 1109) X h232 h233 dL_law_1109 (tgt := 1164) (by decide) (fun h234 => ?_) (fun h234 => ?_)
        · refine r_iinc (pc := 1164) (lv' := [(0, .ref b0), (1, .ref (kB K + 0)), (2, .ref (kB K + 35)), (3, vI (x3 + 5))]) X 3 [1, 2, 3, 0] dL_law_1164 rfl (by decide) rfl ?_
          refine r_goto (pc := 1167) X dL_law_1167 (tgt := 18) (by decide) ?_
          exact r_widen (c2 := 100 + 16 * (x3 + 5).toNat) (s2 := 100000 + 976 * (x3 + 5).toNat) (by omega) (by omega) (ih (x3 + 5) q1087_230.2.1 q1087_230.2.2.1 c ms rd q1106_231.2 q1087_230.2.2.2 ⟨by omega, by omega⟩)
        · exact r_none
      refine r_case (fun h235 => ?_) (fun h235 => ?_)
      · refine r_tableIn (pc := 32) X 29 h235 (by decide) dL_law_32 (by decide) rfl (tgt := 1114) (by decide) ?_
        refine r_aload_n (pc := 1114) X 1 dL_law_1114 rfl rfl ?_
        refine r_callV (pc := 1115) (q0 := 0) (ci := 5) (As := []) (rest := []) (W' := fun q1115_236 => (Zw (kE K) q1115_236.2 b c ms rd m P)) (rv := fun q1115_236 => some (vI q1115_236.1)) X dL_law_1115 rfl (fun a ha => c_X5_back N lt b c ms rd m P K.1.2.1 K.2.2.1.1 (kE K) a ha) (fun a => Zw_d _ _ _ _ _ _ _ _) gd_L_135 rfl (n := 0) (by decide) rfl ⟨by decide, by decide, by simp only [room_1]; omega, by simp only [room_1]; omega⟩ rfl rfl rfl (Nat.zero_le _) (fun q1115_236 eq1115_236 => ?_)
        show Rn K _ (100 + 16 * x3.toNat + 0) (100000 + 976 * x3.toNat + 0) _ 1118 [(0, .ref b0), (1, .ref (kB K + 0)), (2, .ref (kB K + 35)), (3, vI x3)] [vI q1115_236.1] (Zw (kE K) q1115_236.2 b c ms rd m P)
        refine r_aload_n (pc := 1118) X 2 dL_law_1118 rfl rfl ?_
        refine r_callV (pc := 1119) (q0 := 35) (ci := 6) (As := []) (rest := [vI q1115_236.1]) (W' := fun q1119_237 => (Zw (kE K) q1115_236.2 b c ms rd q1119_237.2 P)) (rv := fun q1119_237 => some (vI q1119_237.1)) X dL_law_1119 rfl (fun a ha => c_X6_back N q1115_236.2 b c ms rd m P K.1.2.1 K.2.2.1.1 (kE K) a ha) (fun a => Zw_d _ _ _ _ _ _ _ _) gd_L_138 rfl (n := 0) (by decide) rfl ⟨by decide, by decide, by simp only [room_1]; omega, by simp only [room_1]; omega⟩ rfl rfl rfl (by simp [z_cat, z_catR, z_catI, z_catL]) (fun q1119_237 eq1119_237 => ?_)
        show Rn K _ (100 + 16 * x3.toNat + 0) (100000 + 976 * x3.toNat + 0) _ 1122 [(0, .ref b0), (1, .ref (kB K + 0)), (2, .ref (kB K + 35)), (3, vI x3)] [vI q1119_237.1, vI q1115_236.1] (Zw (kE K) q1115_236.2 b c ms rd q1119_237.2 P)
        refine r_ck1 (fun h238 => ?_)
        refine r_ck1 (fun h239 => ?_)
        refine r_icmp_eq (pc := 1122) X h238 h239 dL_law_1122 (tgt := 1164) (by decide) (fun h240 => ?_) (fun h240 => ?_)
        · refine r_iinc (pc := 1164) (lv' := [(0, .ref b0), (1, .ref (kB K + 0)), (2, .ref (kB K + 35)), (3, vI (x3 + 5))]) X 3 [1, 2, 3, 0] dL_law_1164 rfl (by decide) rfl ?_
          refine r_goto (pc := 1167) X dL_law_1167 (tgt := 18) (by decide) ?_
          exact r_widen (c2 := 100 + 16 * (x3 + 5).toNat) (s2 := 100000 + 976 * (x3 + 5).toNat) (by omega) (by omega) (ih (x3 + 5) q1115_236.2 b c ms rd q1119_237.2 P ⟨by omega, by omega⟩)
        · exact r_none
      refine r_case (fun h241 => ?_) (fun h241 => ?_)
      · refine r_tableIn (pc := 32) X 30 h241 (by decide) dL_law_32 (by decide) rfl (tgt := 1127) (by decide) ?_
        refine r_aload_n (pc := 1127) X 1 dL_law_1127 rfl rfl ?_
        refine r_aload_n (pc := 1128) X 0 dL_law_1128 rfl rfl ?_
        refine r_iload_n (pc := 1129) X 3 dL_law_1129 rfl rfl ?_
        refine r_iconst (pc := 1130) X 1 dL_law_1130 (by decide) ?_
        refine r_iadd (pc := 1131) X dL_law_1131 ?_
        refine r_ckA (fun h242 => ?_)
        refine r_sld (pc := 1132) X hXs hb0 h242 hL dL_law_1132 ?_
        refine r_callV (pc := 1133) (q0 := 0) (ci := 5) (As := [vI (xs (x3 + 1))]) (rest := []) (W' := fun q1133_243 => (Zw (kE K) q1133_243.2 b c ms rd m P)) (rv := fun q1133_243 => some (vI q1133_243.1)) X dL_law_1133 rfl (fun a ha => c_X5_told N lt b c ms rd m P (xs (x3 + 1)) K.1.2.1 K.2.2.1.1 (kE K) a ha) (fun a => Zw_d _ _ _ _ _ _ _ _) gd_L_139 rfl (n := 1) (by decide) rfl ⟨by decide, by decide, by simp only [room_1]; omega, by simp only [room_1]; omega⟩ rfl rfl rfl (Nat.zero_le _) (fun q1133_243 eq1133_243 => ?_)
        show Rn K _ (100 + 16 * x3.toNat + 0) (100000 + 976 * x3.toNat + 0) _ 1136 [(0, .ref b0), (1, .ref (kB K + 0)), (2, .ref (kB K + 35)), (3, vI x3)] [vI q1133_243.1] (Zw (kE K) q1133_243.2 b c ms rd m P)
        refine r_aload_n (pc := 1136) X 2 dL_law_1136 rfl rfl ?_
        refine r_aload_n (pc := 1137) X 0 dL_law_1137 rfl rfl ?_
        refine r_iload_n (pc := 1138) X 3 dL_law_1138 rfl rfl ?_
        refine r_iconst (pc := 1139) X 1 dL_law_1139 (by decide) ?_
        refine r_iadd (pc := 1140) X dL_law_1140 ?_
        refine r_sld (pc := 1141) X hXs hb0 h242 hL dL_law_1141 ?_
        refine r_callV (pc := 1142) (q0 := 35) (ci := 6) (As := [vI (xs (x3 + 1))]) (rest := [vI q1133_243.1]) (W' := fun q1142_244 => (Zw (kE K) q1133_243.2 b c ms rd q1142_244.2 P)) (rv := fun q1142_244 => some (vI q1142_244.1)) X dL_law_1142 rfl (fun a ha => c_X6_told N q1133_243.2 b c ms rd m P (xs (x3 + 1)) K.1.2.1 K.2.2.1.1 (kE K) a ha) (fun a => Zw_d _ _ _ _ _ _ _ _) gd_L_142 rfl (n := 1) (by decide) rfl ⟨by decide, by decide, by simp only [room_1]; omega, by simp only [room_1]; omega⟩ rfl rfl rfl (by simp [z_cat, z_catR, z_catI, z_catL]) (fun q1142_244 eq1142_244 => ?_)
        show Rn K _ (100 + 16 * x3.toNat + 0) (100000 + 976 * x3.toNat + 0) _ 1145 [(0, .ref b0), (1, .ref (kB K + 0)), (2, .ref (kB K + 35)), (3, vI x3)] [vI q1142_244.1, vI q1133_243.1] (Zw (kE K) q1133_243.2 b c ms rd q1142_244.2 P)
        refine r_ck1 (fun h245 => ?_)
        refine r_ck1 (fun h246 => ?_)
        refine r_icmp_eq (pc := 1145) X h245 h246 dL_law_1145 (tgt := 1164) (by decide) (fun h247 => ?_) (fun h247 => ?_)
        · refine r_iinc (pc := 1164) (lv' := [(0, .ref b0), (1, .ref (kB K + 0)), (2, .ref (kB K + 35)), (3, vI (x3 + 5))]) X 3 [1, 2, 3, 0] dL_law_1164 rfl (by decide) rfl ?_
          refine r_goto (pc := 1167) X dL_law_1167 (tgt := 18) (by decide) ?_
          exact r_widen (c2 := 100 + 16 * (x3 + 5).toNat) (s2 := 100000 + 976 * (x3 + 5).toNat) (by omega) (by omega) (ih (x3 + 5) q1133_243.2 b c ms rd q1142_244.2 P ⟨by omega, by omega⟩)
        · exact r_none
      refine r_case (fun h248 => ?_) (fun h248 => ?_)
      · refine r_tableIn (pc := 32) X 31 h248 (by decide) dL_law_32 (by decide) rfl (tgt := 1150) (by decide) ?_
        refine r_aload_n (pc := 1150) X 1 dL_law_1150 rfl rfl ?_
        refine r_callV (pc := 1151) (q0 := 0) (ci := 5) (As := []) (rest := []) (W' := fun q1151_249 => (Zw (kE K) lt b c ms rd m P)) (rv := fun q1151_249 => some (vL q1151_249)) X dL_law_1151 rfl (fun a ha => c_X5_digest N lt b c ms rd m P K.1.2.1 K.2.2.1.1 (kE K) a ha) (fun a => Zw_d _ _ _ _ _ _ _ _) gd_L_143 rfl (n := 0) (by decide) rfl ⟨by decide, by decide, by simp only [room_1]; omega, by simp only [room_1]; omega⟩ rfl rfl rfl (Nat.zero_le _) (fun q1151_249 eq1151_249 => ?_)
        show Rn K _ (100 + 16 * x3.toNat + 0) (100000 + 976 * x3.toNat + 0) _ 1154 [(0, .ref b0), (1, .ref (kB K + 0)), (2, .ref (kB K + 35)), (3, vI x3)] [vL q1151_249] (Zw (kE K) lt b c ms rd m P)
        refine r_aload_n (pc := 1154) X 2 dL_law_1154 rfl rfl ?_
        refine r_callV (pc := 1155) (q0 := 35) (ci := 6) (As := []) (rest := [vL q1151_249]) (W' := fun q1155_250 => (Zw (kE K) lt b c ms rd m P)) (rv := fun q1155_250 => some (vL q1155_250)) X dL_law_1155 rfl (fun a ha => c_X6_digest N lt b c ms rd m P K.1.2.1 K.2.2.1.1 (kE K) a ha) (fun a => Zw_d _ _ _ _ _ _ _ _) gd_L_147 rfl (n := 0) (by decide) rfl ⟨by decide, by decide, by simp only [room_1]; omega, by simp only [room_1]; omega⟩ rfl rfl rfl (by simp [z_cat, z_catR, z_catI, z_catL]) (fun q1155_250 eq1155_250 => ?_)
        show Rn K _ (100 + 16 * x3.toNat + 0) (100000 + 976 * x3.toNat + 0) _ 1158 [(0, .ref b0), (1, .ref (kB K + 0)), (2, .ref (kB K + 35)), (3, vI x3)] [vL q1155_250, vL q1151_249] (Zw (kE K) lt b c ms rd m P)
        refine r_leq (pc := 1158) X dL_law_1158 dL_law_1159 (tgt := 1164) (by decide) (fun h251 => ?_)
        refine r_iinc (pc := 1164) (lv' := [(0, .ref b0), (1, .ref (kB K + 0)), (2, .ref (kB K + 35)), (3, vI (x3 + 5))]) X 3 [1, 2, 3, 0] dL_law_1164 rfl (by decide) rfl ?_
        refine r_goto (pc := 1167) X dL_law_1167 (tgt := 18) (by decide) ?_
        exact r_widen (c2 := 100 + 16 * (x3 + 5).toNat) (s2 := 100000 + 976 * (x3 + 5).toNat) (by omega) (by omega) (ih (x3 + 5) lt b c ms rd m P ⟨by omega, by omega⟩)
      refine r_tableOut (pc := 32) X h5 dL_law_32 (by omega) (tgt := 1164) (by decide) ?_
      refine r_iinc (pc := 1164) (lv' := [(0, .ref b0), (1, .ref (kB K + 0)), (2, .ref (kB K + 35)), (3, vI (x3 + 5))]) X 3 [1, 2, 3, 0] dL_law_1164 rfl (by decide) rfl ?_
      refine r_goto (pc := 1167) X dL_law_1167 (tgt := 18) (by decide) ?_
      exact r_widen (c2 := 100 + 16 * (x3 + 5).toNat) (s2 := 100000 + 976 * (x3 + 5).toNat) (by omega) (by omega) (ih (x3 + 5) lt b c ms rd m P ⟨by omega, by omega⟩)
