/-! THE FUNCTIONAL PROGRAMS, one a method, out of the bytecode (by program) -/
def f_X2_holds (P : PL) (h : Int) (x1 : Int) : Option (Int) :=
  ck1 x1 <|
  if x1 < 0 then
    some (0)
  else
    ck1 ((gP P h).1) <|
    if ((gP P h).1) ≤ x1 then
      some (0)
    else
      some (1)
def f_X2_headAt (P : PL) (h : Int) (x1 : Int) : Option (Int) :=
  bn (f_X2_holds P h x1) fun q2_1 =>
  ck1 q2_1 <|
  if q2_1 = 0 then
    some (0)
  else
    ckA (3 * x1) (3 * (gP P h).1) <|
    ck1 (3 * x1) <|
    some ((gP P h).2 (3 * x1))
def f_X2_partAt (P : PL) (h : Int) (x1 : Int) (x2 : Int) : Option (Int) :=
  bn (f_X2_holds P h x1) fun q2_1 =>
  ck1 q2_1 <|
  if q2_1 = 0 then
    some (0)
  else
    ck1 x2 <|
    if x2 < 0 then
      some (0)
    else
      if 2 ≤ x2 then
        some (0)
      else
        ckA (((3 * x1) + 1) + x2) (3 * (gP P h).1) <|
        ck1 (((3 * x1) + 1) + x2) <|
        some ((gP P h).2 (((3 * x1) + 1) + x2))
def f_X5_partsOf (x0 : Int) : Option (Int) :=
  ck1 x0 <|
  if 4 ≤ x0 then
    jn (fun (s_17 : Int) =>
        some (s_17)) fun j17 =>
    j17 (if x0 ≠ 4 then 2 else 1)
  else
    some (0)
def f_X2_partCount (P : PL) (h : Int) (x1 : Int) : Option (Int) :=
  bn (f_X2_headAt P h x1) fun q2_1 =>
  bn (f_X5_partsOf q2_1) fun q5_2 =>
  some (q5_2)
def f_X2_sameAs_L15 (P : PL) (h : Int) (x1 : Int) (k : Option (Int)) : Nat → Int → Option (Int)
  | 0, _ => none
  | n + 1, x2 =>
    ck1 x2 <|
    ck1 ((gP P h).1) <|
    if ((gP P h).1) ≤ x2 then
      k
    else
      bn (f_X2_headAt P h x2) fun q25_8 =>
      ckG x1 P <|
      bn (f_X2_headAt P x1 x2) fun q30_10 =>
      ck1 q25_8 <|
      ck1 q30_10 <|
      if q25_8 ≠ q30_10 then
        some (0)
      else
        bn (f_X2_partAt P h x2 0) fun q39_14 =>
        bn (f_X2_partAt P x1 x2 0) fun q45_15 =>
        ck1 q39_14 <|
        ck1 q45_15 <|
        if q39_14 ≠ q45_15 then
          some (0)
        else
          bn (f_X2_partAt P h x2 1) fun q54_19 =>
          bn (f_X2_partAt P x1 x2 1) fun q60_20 =>
          ck1 q54_19 <|
          ck1 q60_20 <|
          if q54_19 = q60_20 then
            f_X2_sameAs_L15 P h x1 k n (x2 + 1)
          else
            some (0)
def f_X2_sameAs (N : Nat) (P : PL) (h : Int) (x1 : Int) : Option (Int) :=
  ckG x1 P <|
  ck1 ((gP P h).1) <|
  ck1 ((gP P x1).1) <|
  if ((gP P h).1) = ((gP P x1).1) then
    f_X2_sameAs_L15 P h x1 (
        some (1)) N 0
  else
    some (0)
def f_X2_codeOf_L35 (P : PL) (h : Int) (x3 : Int) (x4 : Int) (k : Int → Option (Int)) : Nat → Int → Int → Option (Int)
  | 0, _, _ => none
  | n + 1, x1, x5 =>
    ck1 x5 <|
    ck1 x4 <|
    if x4 ≤ x5 then
      k x1
    else
      bn (f_X2_partAt P h x3 x5) fun q51_10 =>
      ck1 q51_10 <|
      f_X2_codeOf_L35 P h x3 x4 k n ((31 * x1) + q51_10) (x5 + 1)
def f_X2_codeOf_L4 (N : Nat) (P : PL) (h : Int) (k : Int → Option (Int)) : Nat → Int → Int → Option (Int)
  | 0, _, _ => none
  | n + 1, x1, x3 =>
    ck1 x3 <|
    ck1 ((gP P h).1) <|
    if ((gP P h).1) ≤ x3 then
      k x1
    else
      bn (f_X2_headAt P h x3) fun q19_4 =>
      ck1 q19_4 <|
      bn (f_X2_partCount P h x3) fun q27_6 =>
      f_X2_codeOf_L35 P h x3 q27_6 (fun (x1_35 : Int) =>
          f_X2_codeOf_L4 N P h k n x1_35 (x3 + 1)) N ((31 * x1) + q19_4) 0
def f_X2_codeOf (N : Nat) (P : PL) (h : Int) : Option (Int) :=
  f_X2_codeOf_L4 N P h (fun (x1_4 : Int) =>
      some (x1_4)) N 1 0
def f_X2_countOf_L4 (P : PL) (h : Int) (x1 : Int) (k : Int → Option (Int)) : Nat → Int → Int → Option (Int)
  | 0, _, _ => none
  | n + 1, x2, x3 =>
    ck1 x3 <|
    ck1 ((gP P h).1) <|
    if ((gP P h).1) ≤ x3 then
      k x2
    else
      bn (f_X2_headAt P h x3) fun q14_4 =>
      ck1 q14_4 <|
      ck1 x1 <|
      if q14_4 ≠ x1 then
        f_X2_countOf_L4 P h x1 k n x2 (x3 + 1)
      else
        f_X2_countOf_L4 P h x1 k n (x2 + 1) (x3 + 1)
def f_X2_countOf (N : Nat) (P : PL) (h : Int) (x1 : Int) : Option (Int) :=
  f_X2_countOf_L4 P h x1 (fun (x2_4 : Int) =>
      some (x2_4)) N 0 0
def f_X3_alikeAt_L87 (P : PL) (x1 : Int) (x3 : Int) (x6 : Int) (x7 : Int) (x8 : Int) (x9 : Int) (k : Int → Bd → Option (Int × Bd)) : Nat → Int → Int → Bd → Option (Int × Bd)
  | 0, _, _, _ => none
  | n + 1, x5, x10, ms1 =>
    ck1 x10 <|
    ck1 x9 <|
    if x9 ≤ x10 then
      k x5 ms1
    else
      ckG x3 P <|
      bn (f_X2_partAt P x3 x7 x10) fun q99_21 =>
      ckG x1 P <|
      bn (f_X2_partAt P x1 x8 x10) fun q109_23 =>
      ckA q99_21 40 <|
      jn (
          ck1 (ms1 1 q99_21) <|
          ck1 q109_23 <|
          if (ms1 1 q99_21) = q109_23 then
            f_X3_alikeAt_L87 P x1 x3 x6 x7 x8 x9 k n x5 (x10 + 1) ms1
          else
            some (0, ms1)) fun j156 =>
      ck1 (ms1 1 q99_21) <|
      if (ms1 1 q99_21) ≠ (-1) then
        j156
      else
        ck1 x5 <|
        if 40 ≤ x5 then
          j156
        else
          ckA x5 40 <|
          f_X3_alikeAt_L87 P x1 x3 x6 x7 x8 x9 k n (x5 + 1) (x10 + 1) (bS (bS ms1 1 (aS (ms1 1) q99_21 q109_23)) 2 (aS (ms1 2) x5 q99_21))
def f_X3_alikeAt_L34 (N : Nat) (P : PL) (x1 : Int) (x3 : Int) (k : Bd → Option (Int × Bd)) : Nat → Int → Int → Bd → Option (Int × Bd)
  | 0, _, _, _ => none
  | n + 1, x5, x6, ms1 =>
    ck1 x6 <|
    ck1 x5 <|
    if x5 ≤ x6 then
      k ms1
    else
      ckA x6 40 <|
      ckA (ms1 2 x6) 40 <|
      ckG x1 P <|
      bn (f_X2_headAt P x1 (ms1 1 (ms1 2 x6))) fun q62_10 =>
      ckG x3 P <|
      bn (f_X2_headAt P x3 (ms1 2 x6)) fun q68_12 =>
      ck1 q62_10 <|
      ck1 q68_12 <|
      if q62_10 = q68_12 then
        bn (f_X2_partCount P x3 (ms1 2 x6)) fun q79_16 =>
        f_X3_alikeAt_L87 P x1 x3 x6 (ms1 2 x6) (ms1 1 (ms1 2 x6)) q79_16 (fun (x5_87 : Int) (ms_87 : Bd) =>
            f_X3_alikeAt_L34 N P x1 x3 k n x5_87 (x6 + 1) ms_87) N x5 0 ms1
      else
        some (0, ms1)
def f_X3_alikeAt (N : Nat) (ms : Bd) (P : PL) (x1 : Int) (x2 : Int) (x3 : Int) (x4 : Int) : Option (Int × Bd) :=
  ckG x3 P <|
  bn (f_X5_fillRow N (ms 1) 40 ((gP P x3).1) (-1)) fun q9_2 =>
  ckA x4 40 <|
  f_X3_alikeAt_L34 N P x1 x3 (fun (ms_34 : Bd) =>
      some (1, ms_34)) N 1 0 (bS (bS ms 1 (aS q9_2 x4 x2)) 2 (aS (ms 2) 0 x4))
def f_X3_isAmong_L3 (N : Nat) (P : PL) (x1 : Int) (x2 : Int) (x3 : Int) (k : Bd → Option (Int × Bd)) : Nat → Int → Bd → Option (Int × Bd)
  | 0, _, _ => none
  | n + 1, x4, ms1 =>
    ckG x3 P <|
    ck1 x4 <|
    ck1 ((gP P x3).1) <|
    if ((gP P x3).1) ≤ x4 then
      k ms1
    else
      bn (f_X3_alikeAt N ms1 P x1 x2 x3 x4) fun q18_5 =>
      ck1 q18_5.1 <|
      if q18_5.1 = 0 then
        f_X3_isAmong_L3 N P x1 x2 x3 k n (x4 + 1) q18_5.2
      else
        some (1, q18_5.2)
def f_X3_isAmong (N : Nat) (ms : Bd) (P : PL) (x1 : Int) (x2 : Int) (x3 : Int) : Option (Int × Bd) :=
  f_X3_isAmong_L3 N P x1 x2 x3 (fun (ms_3 : Bd) =>
      some (0, ms_3)) N 0 ms
def f_X3_commonCount_L5 (N : Nat) (P : PL) (x1 : Int) (x2 : Int) (k : Int → Bd → Option (Int × Bd)) : Nat → Int → Int → Bd → Option (Int × Bd)
  | 0, _, _, _ => none
  | n + 1, x3, x4, ms1 =>
    ckG x1 P <|
    ck1 x4 <|
    ck1 ((gP P x1).1) <|
    if ((gP P x1).1) ≤ x4 then
      k x3 ms1
    else
      bn (f_X3_isAmong N ms1 P x1 x4 x2) fun q19_5 =>
      ck1 q19_5.1 <|
      if q19_5.1 = 0 then
        f_X3_commonCount_L5 N P x1 x2 k n x3 (x4 + 1) q19_5.2
      else
        f_X3_commonCount_L5 N P x1 x2 k n (x3 + 1) (x4 + 1) q19_5.2
def f_X3_commonCount (N : Nat) (ms : Bd) (P : PL) (x1 : Int) (x2 : Int) : Option (Int × Bd) :=
  f_X3_commonCount_L5 N P x1 x2 (fun (x3_5 : Int) (ms_5 : Bd) =>
      some (x3_5, ms_5)) N 0 0 ms
def f_X3_placeOf_L2 (N : Nat) (P : PL) (x1 : Int) (x2 : Int) (k : Bd → Option (Int × Bd)) : Nat → Int → Bd → Option (Int × Bd)
  | 0, _, _ => none
  | n + 1, x3, ms1 =>
    ckG x1 P <|
    ck1 x3 <|
    ck1 ((gP P x1).1) <|
    if ((gP P x1).1) ≤ x3 then
      k ms1
    else
      bn (f_X3_alikeAt N ms1 P x1 x3 x2 0) fun q15_5 =>
      ck1 q15_5.1 <|
      if q15_5.1 = 0 then
        f_X3_placeOf_L2 N P x1 x2 k n (x3 + 1) q15_5.2
      else
        some (x3, q15_5.2)
def f_X3_placeOf (N : Nat) (ms : Bd) (P : PL) (x1 : Int) (x2 : Int) : Option (Int × Bd) :=
  f_X3_placeOf_L2 N P x1 x2 (fun (ms_2 : Bd) =>
      some ((-1), ms_2)) N 0 ms
def f_X3_stepsTo_L53 (P : PL) (x1 : Int) (x2 : Int) (x3 : Int) (x4 : Int) (k : Bd → Option (Int × Bd)) : Nat → Int → Bd → Option (Int × Bd)
  | 0, _, _ => none
  | n + 1, x5, ms1 =>
    ck1 x5 <|
    ck1 x4 <|
    if x4 ≤ x5 then
      k ms1
    else
      ckG x1 P <|
      bn (f_X2_partAt P x1 x3 x5) fun q64_16 =>
      ckA q64_16 40 <|
      ck1 (ms1 0 q64_16) <|
      if (ms1 0 q64_16) ≠ (-1) then
        f_X3_stepsTo_L53 P x1 x2 x3 x4 k n (x5 + 1) ms1
      else
        ckA x3 40 <|
        f_X3_stepsTo_L53 P x1 x2 x3 x4 k n (x5 + 1) (bS ms1 0 (aS (ms1 0) q64_16 ((ms1 0 x3) + 1)))
def f_X3_stepsTo_L35 (N : Nat) (P : PL) (x1 : Int) (x2 : Int) (k : Bd → Option (Int × Bd)) : Nat → Int → Bd → Option (Int × Bd)
  | 0, _, _ => none
  | n + 1, x3, ms1 =>
    ckG x1 P <|
    ck1 x3 <|
    ck1 ((gP P x1).1) <|
    if ((gP P x1).1) ≤ x3 then
      k ms1
    else
      bn (f_X2_partCount P x1 x3) fun q45_11 =>
      f_X3_stepsTo_L53 P x1 x2 x3 q45_11 (fun (ms_53 : Bd) =>
          f_X3_stepsTo_L35 N P x1 x2 k n (x3 + 1) ms_53) N 0 ms1
def f_X3_stepsTo (N : Nat) (ms : Bd) (P : PL) (x1 : Int) (x2 : Int) : Option (Int × Bd) :=
  ck1 x2 <|
  if x2 < 0 then
    some ((-1), ms)
  else
    ckG x1 P <|
    ck1 ((gP P x1).1) <|
    if x2 < ((gP P x1).1) then
      bn (f_X5_fillRow N (ms 0) 40 ((gP P x1).1) (-1)) fun q23_6 =>
      f_X3_stepsTo_L35 N P x1 x2 (fun (ms_35 : Bd) =>
          ckA x2 40 <|
          some (ms_35 0 x2, ms_35)) N 0 (bS ms 0 (aS q23_6 0 0))
    else
      some ((-1), ms)
def f_X3_loopCount_L26 (P : PL) (x1 : Int) (x2 : Int) (x3 : Int) (k : Bd → Option (Int × Bd)) : Nat → Int → Bd → Option (Int × Bd)
  | 0, _, _ => none
  | n + 1, x4, ms1 =>
    ck1 x4 <|
    ck1 x3 <|
    if x3 ≤ x4 then
      k ms1
    else
      ckA x2 40 <|
      ckG x1 P <|
      bn (f_X2_partAt P x1 x2 x4) fun q44_12 =>
      f_X3_loopCount_L26 P x1 x2 x3 k n (x4 + 1) (bS ms1 3 (aS (ms1 3) x2 (l_or (ms1 3 x2) (l_shl 1 q44_12))))
def f_X3_loopCount_L2 (N : Nat) (P : PL) (x1 : Int) (k : Bd → Option (Int × Bd)) : Nat → Int → Bd → Option (Int × Bd)
  | 0, _, _ => none
  | n + 1, x2, ms1 =>
    ckG x1 P <|
    ck1 x2 <|
    ck1 ((gP P x1).1) <|
    if ((gP P x1).1) ≤ x2 then
      k ms1
    else
      ckA x2 40 <|
      bn (f_X2_partCount P x1 x2) fun q19_6 =>
      f_X3_loopCount_L26 P x1 x2 q19_6 (fun (ms_26 : Bd) =>
          f_X3_loopCount_L2 N P x1 k n (x2 + 1) ms_26) N 0 (bS ms1 3 (aS (ms1 3) x2 0))
def f_X3_loopCount_L74 (P : PL) (x1 : Int) (x2 : Int) (k : Bd → Option (Int × Bd)) : Nat → Int → Bd → Option (Int × Bd)
  | 0, _, _ => none
  | n + 1, x3, ms1 =>
    ckG x1 P <|
    ck1 x3 <|
    ck1 ((gP P x1).1) <|
    if ((gP P x1).1) ≤ x3 then
      k ms1
    else
      ckA x3 40 <|
      ckL (l_and (l_shr (ms1 3 x3) x2) 1) <|
      ck1 (l_cmp (l_and (l_shr (ms1 3 x3) x2) 1) 1) <|
      if (l_cmp (l_and (l_shr (ms1 3 x3) x2) 1) 1) ≠ 0 then
        f_X3_loopCount_L74 P x1 x2 k n (x3 + 1) ms1
      else
        ckA x2 40 <|
        f_X3_loopCount_L74 P x1 x2 k n (x3 + 1) (bS ms1 3 (aS (ms1 3) x3 (l_or (ms1 3 x3) (ms1 3 x2))))
def f_X3_loopCount_L64 (N : Nat) (P : PL) (x1 : Int) (k : Bd → Option (Int × Bd)) : Nat → Int → Bd → Option (Int × Bd)
  | 0, _, _ => none
  | n + 1, x2, ms1 =>
    ckG x1 P <|
    ck1 x2 <|
    ck1 ((gP P x1).1) <|
    if ((gP P x1).1) ≤ x2 then
      k ms1
    else
      f_X3_loopCount_L74 P x1 x2 (fun (ms_74 : Bd) =>
          f_X3_loopCount_L64 N P x1 k n (x2 + 1) ms_74) N 0 ms1
def f_X3_loopCount_L128 (ms1 : Bd) (P : PL) (x1 : Int) (k : Int → Option (Int × Bd)) : Nat → Int → Int → Option (Int × Bd)
  | 0, _, _ => none
  | n + 1, x2, x3 =>
    ckG x1 P <|
    ck1 x3 <|
    ck1 ((gP P x1).1) <|
    if ((gP P x1).1) ≤ x3 then
      k x2
    else
      ckA x3 40 <|
      f_X3_loopCount_L128 ms1 P x1 k n (x2 + (l_and (l_shr (ms1 3 x3) x3) 1)) (x3 + 1)
def f_X3_loopCount (N : Nat) (ms : Bd) (P : PL) (x1 : Int) : Option (Int × Bd) :=
  f_X3_loopCount_L2 N P x1 (fun (ms_2 : Bd) =>
      f_X3_loopCount_L64 N P x1 (fun (ms_64 : Bd) =>
          f_X3_loopCount_L128 ms_64 P x1 (fun (x2_128 : Int) =>
              some (x2_128, ms_64)) N 0 0) N 0 ms_2) N 0 ms
def f_X3_longestWay_L52 (P : PL) (x1 : Int) (x2 : Int) (x3 : Int) (x4 : Int) (k : Bd → Option (Int × Bd)) : Nat → Int → Bd → Option (Int × Bd)
  | 0, _, _ => none
  | n + 1, x5, ms1 =>
    ck1 x5 <|
    ck1 x4 <|
    if x4 ≤ x5 then
      k ms1
    else
      ckA x3 40 <|
      ckG x1 P <|
      bn (f_X2_partAt P x1 x3 x5) fun q79_20 =>
      ckA q79_20 40 <|
      ck1 (ms1 0 x3) <|
      ck1 (1 + (ms1 0 q79_20)) <|
      f_X3_longestWay_L52 P x1 x2 x3 x4 k n (x5 + 1) (bS ms1 0 (aS (ms1 0) x3 (max (ms1 0 x3) (1 + (ms1 0 q79_20)))))
def f_X3_longestWay_L34 (N : Nat) (P : PL) (x1 : Int) (x2 : Int) (k : Bd → Option (Int × Bd)) : Nat → Int → Bd → Option (Int × Bd)
  | 0, _, _ => none
  | n + 1, x3, ms1 =>
    ckG x1 P <|
    ck1 x3 <|
    ck1 ((gP P x1).1) <|
    if ((gP P x1).1) ≤ x3 then
      k ms1
    else
      bn (f_X2_partCount P x1 x3) fun q44_14 =>
      f_X3_longestWay_L52 P x1 x2 x3 q44_14 (fun (ms_52 : Bd) =>
          f_X3_longestWay_L34 N P x1 x2 k n (x3 + 1) ms_52) N 0 ms1
def f_X3_longestWay_L24 (N : Nat) (P : PL) (x1 : Int) (k : Bd → Option (Int × Bd)) : Nat → Int → Bd → Option (Int × Bd)
  | 0, _, _ => none
  | n + 1, x2, ms1 =>
    ckG x1 P <|
    ck1 x2 <|
    ck1 ((gP P x1).1) <|
    if ((gP P x1).1) ≤ x2 then
      k ms1
    else
      f_X3_longestWay_L34 N P x1 x2 (fun (ms_34 : Bd) =>
          f_X3_longestWay_L24 N P x1 k n (x2 + 1) ms_34) N 0 ms1
def f_X3_longestWay (N : Nat) (ms : Bd) (P : PL) (x1 : Int) : Option (Int × Bd) :=
  bn (f_X3_loopCount N ms P x1) fun q2_1 =>
  ck1 q2_1.1 <|
  if q2_1.1 ≤ 0 then
    ckG x1 P <|
    bn (f_X5_fillRow N (q2_1.2 0) 40 ((gP P x1).1) 0) fun q19_5 =>
    f_X3_longestWay_L24 N P x1 (fun (ms_24 : Bd) =>
        some (ms_24 0 0, ms_24)) N 0 (bS q2_1.2 0 q19_5)
  else
    some ((-1), q2_1.2)
def f_X3_treeHeads_L55 (ms1 : Bd) (P : PL) (x1 : Int) (x2 : Int) (x3 : Int) (x5 : Int) (k : Int → Option (Int × Bd)) : Nat → Int → Int → Option (Int × Bd)
  | 0, _, _ => none
  | n + 1, x4, x6 =>
    ck1 x6 <|
    ck1 x5 <|
    if x5 ≤ x6 then
      k x4
    else
      ckG x1 P <|
      bn (f_X2_partAt P x1 x3 x6) fun q72_19 =>
      ckA q72_19 40 <|
      f_X3_treeHeads_L55 ms1 P x1 x2 x3 x5 k n (x4 + (ms1 0 q72_19)) (x6 + 1)
def f_X3_treeHeads_L34 (N : Nat) (P : PL) (x1 : Int) (x2 : Int) (k : Bd → Option (Int × Bd)) : Nat → Int → Bd → Option (Int × Bd)
  | 0, _, _ => none
  | n + 1, x3, ms1 =>
    ckG x1 P <|
    ck1 x3 <|
    ck1 ((gP P x1).1) <|
    if ((gP P x1).1) ≤ x3 then
      k ms1
    else
      bn (f_X2_partCount P x1 x3) fun q47_14 =>
      f_X3_treeHeads_L55 ms1 P x1 x2 x3 q47_14 (fun (x4_55 : Int) =>
          ck1 x4_55 <|
          ckA x3 40 <|
          f_X3_treeHeads_L34 N P x1 x2 k n (x3 + 1) (bS ms1 0 (aS (ms1 0) x3 (min 1000000 x4_55)))) N 1 0
def f_X3_treeHeads_L24 (N : Nat) (P : PL) (x1 : Int) (k : Bd → Option (Int × Bd)) : Nat → Int → Bd → Option (Int × Bd)
  | 0, _, _ => none
  | n + 1, x2, ms1 =>
    ckG x1 P <|
    ck1 x2 <|
    ck1 ((gP P x1).1) <|
    if ((gP P x1).1) ≤ x2 then
      k ms1
    else
      f_X3_treeHeads_L34 N P x1 x2 (fun (ms_34 : Bd) =>
          f_X3_treeHeads_L24 N P x1 k n (x2 + 1) ms_34) N 0 ms1
def f_X3_treeHeads (N : Nat) (ms : Bd) (P : PL) (x1 : Int) : Option (Int × Bd) :=
  bn (f_X3_loopCount N ms P x1) fun q2_1 =>
  ck1 q2_1.1 <|
  if q2_1.1 ≤ 0 then
    ckG x1 P <|
    bn (f_X5_fillRow N (q2_1.2 0) 40 ((gP P x1).1) 1) fun q19_5 =>
    f_X3_treeHeads_L24 N P x1 (fun (ms_24 : Bd) =>
        some (ms_24 0 0, ms_24)) N 0 (bS q2_1.2 0 q19_5)
  else
    some ((-1), q2_1.2)
def f_X3_leastHere (ms : Bd) (P : PL) (x1 : Int) (x2 : Int) : Option (Int) :=
  ckG x1 P <|
  bn (f_X2_headAt P x1 x2) fun q2_2 =>
  ck1 q2_2 <|
  if q2_2 ≠ 0 then
    if q2_2 = 5 then
      bn (f_X2_partAt P x1 x2 0) fun q26_6 =>
      ckA q26_6 40 <|
      bn (f_X2_partAt P x1 x2 1) fun q39_8 =>
      ckA q39_8 40 <|
      ck1 (ms 0 q26_6) <|
      if (ms 0 q26_6) = (-1) then
        some ((-1))
      else
        ck1 (ms 0 q39_8) <|
        if (ms 0 q39_8) ≠ (-1) then
          ck1 ((1 + (ms 0 q26_6)) + (ms 0 q39_8)) <|
          some (min 1000000 ((1 + (ms 0 q26_6)) + (ms 0 q39_8)))
        else
          some ((-1))
    else
      some (1)
  else
    some ((-1))
def f_X3_leastValue_L31 (P : PL) (x1 : Int) (x3 : Int) (k : Int → Bd → Option (Int × Bd)) : Nat → Int → Int → Bd → Option (Int × Bd)
  | 0, _, _, _ => none
  | n + 1, x2, x4, ms1 =>
    ckG x1 P <|
    ck1 x4 <|
    ck1 ((gP P x1).1) <|
    if ((gP P x1).1) ≤ x4 then
      k x2 ms1
    else
      ckA x4 40 <|
      ck1 (ms1 0 x4) <|
      if (ms1 0 x4) ≠ (-1) then
        f_X3_leastValue_L31 P x1 x3 k n x2 (x4 + 1) ms1
      else
        bn (f_X3_leastHere ms1 P x1 x4) fun q61_14 =>
        ck1 ((aS (ms1 0) x4 q61_14) x4) <|
        jn (fun (s_82 : Int) =>
            f_X3_leastValue_L31 P x1 x3 k n (i_or x2 s_82) (x4 + 1) (bS ms1 0 (aS (ms1 0) x4 q61_14))) fun j82 =>
        j82 (if ((aS (ms1 0) x4 q61_14) x4) = (-1) then 0 else 1)
def f_X3_leastValue_L16 (N : Nat) (P : PL) (x1 : Int) (k : Bd → Option (Int × Bd)) : Nat → Int → Int → Bd → Option (Int × Bd)
  | 0, _, _, _ => none
  | n + 1, x2, x3, ms1 =>
    ck1 x2 <|
    if x2 = 0 then
      k ms1
    else
      ck1 x3 <|
      if 40 < x3 then
        k ms1
      else
        f_X3_leastValue_L31 P x1 x3 (fun (x2_31 : Int) (ms_31 : Bd) =>
            f_X3_leastValue_L16 N P x1 k n x2_31 (x3 + 1) ms_31) N 0 0 ms1
def f_X3_leastValue (N : Nat) (ms : Bd) (P : PL) (x1 : Int) : Option (Int × Bd) :=
  ckG x1 P <|
  bn (f_X5_fillRow N (ms 0) 40 ((gP P x1).1) (-1)) fun q9_2 =>
  f_X3_leastValue_L16 N P x1 (fun (ms_16 : Bd) =>
      some (ms_16 0 0, ms_16)) N 1 0 (bS ms 0 q9_2)
def f_X3_passSigns_L19 (P : PL) (x1 : Int) (x2 : Int) (x4 : Int) (x5 : Int) (k : Int → Bd → Option (Int × Bd)) : Nat → Int → Int → Bd → Option (Int × Bd)
  | 0, _, _, _ => none
  | n + 1, x3, x6, ms1 =>
    ck1 x6 <|
    ck1 x5 <|
    if x5 ≤ x6 then
      k x3 ms1
    else
      ckA x2 40 <|
      jn (fun (x7_59 : Int) =>
          ckG x1 P <|
          bn (f_X2_partAt P x1 x2 x6) fun q63_9 =>
          ckA q63_9 40 <|
          ck1 (i_or (ms1 0 q63_9) x7_59) <|
          ck1 (ms1 0 q63_9) <|
          if (i_or (ms1 0 q63_9) x7_59) = (ms1 0 q63_9) then
            f_X3_passSigns_L19 P x1 x2 x4 x5 k n x3 (x6 + 1) ms1
          else
            f_X3_passSigns_L19 P x1 x2 x4 x5 k n 1 (x6 + 1) (bS ms1 0 (aS (ms1 0) q63_9 (i_or (ms1 0 q63_9) x7_59)))) fun j59 =>
      ck1 x4 <|
      if x4 ≠ 6 then
        j59 (ms1 0 x2)
      else
        if x6 ≠ 0 then
          j59 (ms1 0 x2)
        else
          j59 (i_or (i_shl (i_and (ms1 0 x2) 1) 1) (i_shr (ms1 0 x2) 1))
def f_X3_passSigns (N : Nat) (ms : Bd) (P : PL) (x1 : Int) (x2 : Int) : Option (Int × Bd) :=
  ckG x1 P <|
  bn (f_X2_headAt P x1 x2) fun q4_2 =>
  bn (f_X5_partsOf q4_2) fun q11_3 =>
  f_X3_passSigns_L19 P x1 x2 q4_2 q11_3 (fun (x3_19 : Int) (ms_19 : Bd) =>
      ckB x3_19 <|
      some (x3_19, ms_19)) N 0 0 ms
def f_X3_signsAt_L54 (N : Nat) (P : PL) (x1 : Int) (x2 : Int) (x4 : Int) (k : Int → Bd → Option (Int × Bd)) : Nat → Int → Int → Bd → Option (Int × Bd)
  | 0, _, _, _ => none
  | n + 1, x3, x5, ms1 =>
    ckG x1 P <|
    ck1 x5 <|
    ck1 ((gP P x1).1) <|
    if ((gP P x1).1) ≤ x5 then
      k x3 ms1
    else
      bn (f_X3_passSigns N ms1 P x1 x5) fun q68_15 =>
      f_X3_signsAt_L54 N P x1 x2 x4 k n (i_or x3 q68_15.1) (x5 + 1) q68_15.2
def f_X3_signsAt_L38 (N : Nat) (P : PL) (x1 : Int) (x2 : Int) (k : Bd → Option (Int × Bd)) : Nat → Int → Int → Bd → Option (Int × Bd)
  | 0, _, _, _ => none
  | n + 1, x3, x4, ms1 =>
    ck1 x3 <|
    if x3 = 0 then
      k ms1
    else
      ck1 x4 <|
      if 80 < x4 then
        k ms1
      else
        f_X3_signsAt_L54 N P x1 x2 x4 (fun (x3_54 : Int) (ms_54 : Bd) =>
            f_X3_signsAt_L38 N P x1 x2 k n x3_54 (x4 + 1) ms_54) N 0 0 ms1
def f_X3_signsAt (N : Nat) (ms : Bd) (P : PL) (x1 : Int) (x2 : Int) : Option (Int × Bd) :=
  ck1 x2 <|
  if x2 < 0 then
    some (0, ms)
  else
    ckG x1 P <|
    ck1 ((gP P x1).1) <|
    if x2 < ((gP P x1).1) then
      bn (f_X5_fillRow N (ms 0) 40 ((gP P x1).1) 0) fun q23_6 =>
      f_X3_signsAt_L38 N P x1 x2 (fun (ms_38 : Bd) =>
          ckA x2 40 <|
          some (ms_38 0 x2, ms_38)) N 1 0 (bS ms 0 (aS q23_6 0 1))
    else
      some (0, ms)
def f_X0_start (b : Bd) : Option (Bd) :=
  some ((bs0 b 3 0))
def f_X0_holds (x0 : Int) : Option (Int) :=
  ck1 x0 <|
  if x0 < 0 then
    some (0)
  else
    if 3280 ≤ x0 then
      some (0)
    else
      some (1)
def f_X0_put (b : Bd) (x1 : Int) (x2 : Int) (x3 : Int) : Option (Int × Bd) :=
  ck1 (b 3 0) <|
  if 3280 ≤ (b 3 0) then
    some (0, b)
  else
    ck1 x1 <|
    if x1 < 0 then
      some (0, b)
    else
      if x1 < 7 then
        ckA (b 3 0) 3280 <|
        bn (f_X0_holds x2) fun q43_7 =>
        jn (fun (s2_54 : Int) =>
            bn (f_X0_holds x3) fun q62_8 =>
            jn (fun (s2_73 : Int) =>
                some (b 3 0, (bs0 (bS (bS (bS b 0 (aS (b 0) (b 3 0) x1)) 1 (aS (b 1) (b 3 0) s2_54)) 2 (aS (b 2) (b 3 0) s2_73)) 3 ((b 3 0) + 1)))) fun j73 =>
            ck1 q62_8 <|
            if q62_8 = 0 then
              j73 0
            else
              j73 x3) fun j54 =>
        ck1 q43_7 <|
        if q43_7 = 0 then
          j54 0
        else
          j54 x2
      else
        some (0, b)
def f_X0_putAll_L7 (P : PL) (x1 : Int) (x2 : Int) (k : Bd → Option (Int × Bd)) : Nat → Int → Bd → Option (Int × Bd)
  | 0, _, _ => none
  | n + 1, x3, b1 =>
    ckG x1 P <|
    ck1 x3 <|
    ck1 ((gP P x1).1) <|
    if ((gP P x1).1) ≤ x3 then
      k b1
    else
      bn (f_X2_headAt P x1 x3) fun q18_5 =>
      bn (f_X2_partAt P x1 x3 0) fun q25_6 =>
      bn (f_X2_partAt P x1 x3 1) fun q33_7 =>
      bn (f_X0_put b1 q18_5 (x2 + q25_6) (x2 + q33_7)) fun q37_8 =>
      f_X0_putAll_L7 P x1 x2 k n (x3 + 1) q37_8.2
def f_X0_putAll (N : Nat) (b : Bd) (P : PL) (x1 : Int) : Option (Int × Bd) :=
  f_X0_putAll_L7 P x1 (b 3 0) (fun (b_7 : Bd) =>
      some (b 3 0, b_7)) N 0 b
def f_X0_link (b : Bd) (x1 : Int) (x2 : Int) (x3 : Int) : Option (Bd) :=
  bn (f_X0_holds x1) fun q1_1 =>
  ck1 q1_1 <|
  if q1_1 = 0 then
    some (b)
  else
    bn (f_X0_holds x3) fun q8_4 =>
    ck1 q8_4 <|
    if q8_4 ≠ 0 then
      ck1 x2 <|
      if x2 ≠ 0 then
        ckA x1 3280 <|
        some ((bS b 2 (aS (b 2) x1 x3)))
      else
        ckA x1 3280 <|
        some ((bS b 1 (aS (b 1) x1 x3)))
    else
      some (b)
def f_X0_linked (b : Bd) (x1 : Int) (x2 : Int) : Option (Int) :=
  ck1 x2 <|
  if x2 ≠ 0 then
    ckA x1 3280 <|
    some (b 2 x1)
  else
    ckA x1 3280 <|
    some (b 1 x1)
def f_X0_reachFrom_L58 (x3 : Int) (x4 : Int) (x5 : Int) (k : Int → Bd → Option (Int × Bd)) : Nat → Int → Int → Bd → Option (Int × Bd)
  | 0, _, _, _ => none
  | n + 1, x2, x6, b1 =>
    ck1 x6 <|
    ck1 x5 <|
    if x5 ≤ x6 then
      k x2 b1
    else
      bn (f_X0_linked b1 x4 x6) fun q70_12 =>
      ckA q70_12 3280 <|
      ck1 (b1 5 q70_12) <|
      if (b1 5 q70_12) ≠ 0 then
        f_X0_reachFrom_L58 x3 x4 x5 k n x2 (x6 + 1) b1
      else
        ck1 x2 <|
        if 3280 ≤ x2 then
          f_X0_reachFrom_L58 x3 x4 x5 k n x2 (x6 + 1) b1
        else
          ckA x2 3280 <|
          f_X0_reachFrom_L58 x3 x4 x5 k n (x2 + 1) (x6 + 1) (bS (bS b1 4 (aS (b1 4) x2 q70_12)) 5 (aS (b1 5) q70_12 1))
def f_X0_reachFrom_L30 (N : Nat) (k : Int → Bd → Option (Int × Bd)) : Nat → Int → Int → Bd → Option (Int × Bd)
  | 0, _, _, _ => none
  | n + 1, x2, x3, b1 =>
    ck1 x3 <|
    ck1 x2 <|
    if x2 ≤ x3 then
      k x2 b1
    else
      ckA x3 3280 <|
      ckA (b1 4 x3) 3280 <|
      bn (f_X5_partsOf (b1 0 (b1 4 x3))) fun q50_8 =>
      f_X0_reachFrom_L58 x3 (b1 4 x3) q50_8 (fun (x2_58 : Int) (b_58 : Bd) =>
          f_X0_reachFrom_L30 N k n x2_58 (x3 + 1) b_58) N x2 0 b1
def f_X0_reachFrom (N : Nat) (b : Bd) (x1 : Int) : Option (Int × Bd) :=
  bn (f_X5_fillRow N (b 5) 3280 (b 3 0) 0) fun q9_1 =>
  ckA x1 3280 <|
  f_X0_reachFrom_L30 N (fun (x2_30 : Int) (b_30 : Bd) =>
      some (x2_30, b_30)) N 1 0 (bS (bS b 4 (aS (b 4) 0 x1)) 5 (aS q9_1 x1 1))
def f_X0_groupOfPart (b : Bd) (x1 : Int) (x2 : Int) : Option (Int) :=
  ckA x1 3280 <|
  bn (f_X5_partsOf (b 0 x1)) fun q7_2 =>
  ck1 x2 <|
  ck1 q7_2 <|
  if q7_2 ≤ x2 then
    some (0)
  else
    bn (f_X0_linked b x1 x2) fun q20_6 =>
    ckA q20_6 3280 <|
    some (b 6 q20_6)
def f_X0_signatureOf (b : Bd) (x1 : Int) : Option (Int) :=
  bn (f_X0_groupOfPart b x1 0) fun q3_1 =>
  bn (f_X0_groupOfPart b x1 1) fun q10_2 =>
  ckA x1 3280 <|
  some (((((b 0 x1) * 40) + q3_1) * 40) + q10_2)
def f_X0_splitGroups_L7 (x1 : Int) (k : Int → Int → Bd → Option (Int × Bd)) : Nat → Int → Int → Int → Bd → Option (Int × Bd)
  | 0, _, _, _, _ => none
  | n + 1, x2, x3, x4, b1 =>
    ck1 x4 <|
    ck1 x1 <|
    if x1 ≤ x4 then
      k x2 x3 b1
    else
      ck1 x3 <|
      if x3 ≠ 0 then
        k x2 x3 b1
      else
        ckA x4 3280 <|
        bn (f_X0_signatureOf b1 (b1 4 x4)) fun q29_7 =>
        ckA q29_7 11200 <|
        jn (fun (x2_75 : Int) (x3_75 : Int) (b_75 : Bd) =>
            ckA (b1 4 x4) 3280 <|
            f_X0_splitGroups_L7 x1 k n x2_75 x3_75 (x4 + 1) (bS b_75 7 (aS (b_75 7) (b1 4 x4) (b_75 8 q29_7)))) fun j75 =>
        ck1 (b1 8 q29_7) <|
        if (b1 8 q29_7) ≠ (-1) then
          j75 x2 x3 b1
        else
          ck1 x2 <|
          if 40 ≤ x2 then
            j75 x2 1 b1
          else
            ckA x2 40 <|
            j75 (x2 + 1) x3 (bS (bS b1 8 (aS (b1 8) q29_7 x2)) 9 (aS (b1 9) x2 q29_7))
def f_X0_splitGroups_L98 (x1 : Int) (x2 : Int) (x3 : Int) (k : Bd → Option (Int × Bd)) : Nat → Int → Bd → Option (Int × Bd)
  | 0, _, _ => none
  | n + 1, x4, b1 =>
    ck1 x4 <|
    ck1 x2 <|
    if x2 ≤ x4 then
      k b1
    else
      ckA x4 40 <|
      ckA (b1 9 x4) 11200 <|
      f_X0_splitGroups_L98 x1 x2 x3 k n (x4 + 1) (bS b1 8 (aS (b1 8) (b1 9 x4) (-1)))
def f_X0_splitGroups_L133 (x1 : Int) (x2 : Int) (k : Bd → Option (Int × Bd)) : Nat → Int → Bd → Option (Int × Bd)
  | 0, _, _ => none
  | n + 1, x4, b1 =>
    ck1 x4 <|
    ck1 x1 <|
    if x1 ≤ x4 then
      k b1
    else
      ckA x4 3280 <|
      ckA (b1 4 x4) 3280 <|
      f_X0_splitGroups_L133 x1 x2 k n (x4 + 1) (bS b1 6 (aS (b1 6) (b1 4 x4) (b1 7 (b1 4 x4))))
def f_X0_splitGroups (N : Nat) (b : Bd) (x1 : Int) : Option (Int × Bd) :=
  f_X0_splitGroups_L7 x1 (fun (x2_7 : Int) (x3_7 : Int) (b_7 : Bd) =>
      f_X0_splitGroups_L98 x1 x2_7 x3_7 (fun (b_98 : Bd) =>
          ck1 x3_7 <|
          if x3_7 = 0 then
            f_X0_splitGroups_L133 x1 x2_7 (fun (b_133 : Bd) =>
                some (x2_7, b_133)) N 0 b_98
          else
            some ((-4), b_98)) N 0 b_7) N 0 0 0 b
def f_X0_writeDown_L12 (b : Bd) (x1 : Int) (x2 : Int) (k : (Int → Int) → Option (Int × PL)) : Nat → Int → Int → (Int → Int) → Option (Int × PL)
  | 0, _, _, _ => none
  | n + 1, x4, x5, F =>
    ck1 x5 <|
    ck1 x1 <|
    if x1 ≤ x5 then
      k F
    else
      ck1 x4 <|
      ck1 x2 <|
      if x2 ≤ x4 then
        k F
      else
        ckA x5 3280 <|
        ckA (b 4 x5) 3280 <|
        ck1 (b 6 (b 4 x5)) <|
        if (b 6 (b 4 x5)) ≠ x4 then
          f_X0_writeDown_L12 b x1 x2 k n x4 (x5 + 1) F
        else
          ckA (3 * x4) (3 * x2) <|
          bn (f_X0_groupOfPart b (b 4 x5) 0) fun q69_12 =>
          ckA ((3 * x4) + 1) (3 * x2) <|
          bn (f_X0_groupOfPart b (b 4 x5) 1) fun q84_14 =>
          ckA ((3 * x4) + 2) (3 * x2) <|
          f_X0_writeDown_L12 b x1 x2 k n (x4 + 1) (x5 + 1) (aS (aS (aS F (3 * x4) (b 0 (b 4 x5))) ((3 * x4) + 1) q69_12) ((3 * x4) + 2) q84_14)
def f_X0_writeDown (N : Nat) (b : Bd) (P : PL) (x1 : Int) (x2 : Int) : Option (Int × PL) :=
  ckA (3 * x2) 121 <|
  f_X0_writeDown_L12 b x1 x2 (fun (F_12 : (Int → Int)) =>
      some ((P.length : Int), P ++ [(x2, F_12)])) N 0 0 (fun _ => 0)

def f_X0_smallest_L22 (x2 : Int) (k : Bd → Option (Int × Bd × PL)) : Nat → Int → Bd → Option (Int × Bd × PL)
  | 0, _, _ => none
  | n + 1, x3, b1 =>
    ck1 x3 <|
    ck1 x2 <|
    if x2 ≤ x3 then
      k b1
    else
      ckA x3 3280 <|
      ckA (b1 4 x3) 3280 <|
      f_X0_smallest_L22 x2 k n (x3 + 1) (bS b1 6 (aS (b1 6) (b1 4 x3) 0))
def f_X0_smallest_L50 (N : Nat) (P1 : PL) (x2 : Int) (k : Int → Bd → Option (Int × Bd × PL)) : Nat → Int → Int → Bd → Option (Int × Bd × PL)
  | 0, _, _, _ => none
  | n + 1, x3, x4, b1 =>
    ck1 x4 <|
    if 40 < x4 then
      k x3 b1
    else
      bn (f_X0_splitGroups N b1 x2) fun q59_13 =>
      ck1 q59_13.1 <|
      if q59_13.1 ≠ (-4) then
        ck1 x3 <|
        if q59_13.1 ≠ x3 then
          f_X0_smallest_L50 N P1 x2 k n q59_13.1 (x4 + 1) q59_13.2
        else
          k x3 q59_13.2
      else
        some ((-1), q59_13.2, P1)
def f_X0_smallest (N : Nat) (b : Bd) (P : PL) (x1 : Int) : Option (Int × Bd × PL) :=
  ck1 x1 <|
  if x1 < 0 then
    some ((-1), b, P)
  else
    ck1 (b 3 0) <|
    if x1 < (b 3 0) then
      bn (f_X0_reachFrom N b x1) fun q16_5 =>
      f_X0_smallest_L22 q16_5.1 (fun (b_22 : Bd) =>
          f_X0_smallest_L50 N P q16_5.1 (fun (x3_50 : Int) (b_50 : Bd) =>
              bn (f_X0_writeDown N b_50 P q16_5.1 x3_50) fun q94_18 =>
              some (q94_18.1, b_50, q94_18.2)) N 1 0 b_22) N 0 q16_5.2
    else
      some ((-1), b, P)
def f_X0_replaced_L40 (P1 : PL) (x1 : Int) (x2 : Int) (x4 : Int) (x5 : Int) (x6 : Int) (k : Bd → Option (Int × Bd × PL)) : Nat → Int → Bd → Option (Int × Bd × PL)
  | 0, _, _ => none
  | n + 1, x7, b1 =>
    ck1 x7 <|
    ck1 x6 <|
    if x6 ≤ x7 then
      k b1
    else
      ckG x1 P1 <|
      bn (f_X2_partAt P1 x1 x5 x7) fun q52_13 =>
      ck1 q52_13 <|
      ck1 x2 <|
      if q52_13 ≠ x2 then
        f_X0_replaced_L40 P1 x1 x2 x4 x5 x6 k n (x7 + 1) b1
      else
        bn (f_X0_link b1 x5 x7 x4) fun q66_17 =>
        f_X0_replaced_L40 P1 x1 x2 x4 x5 x6 k n (x7 + 1) q66_17
def f_X0_replaced_L20 (N : Nat) (P1 : PL) (x1 : Int) (x2 : Int) (x4 : Int) (k : Bd → Option (Int × Bd × PL)) : Nat → Int → Bd → Option (Int × Bd × PL)
  | 0, _, _ => none
  | n + 1, x5, b1 =>
    ckG x1 P1 <|
    ck1 x5 <|
    ck1 ((gP P1 x1).1) <|
    if ((gP P1 x1).1) ≤ x5 then
      k b1
    else
      bn (f_X2_partCount P1 x1 x5) fun q32_8 =>
      f_X0_replaced_L40 P1 x1 x2 x4 x5 q32_8 (fun (b_40 : Bd) =>
          f_X0_replaced_L20 N P1 x1 x2 x4 k n (x5 + 1) b_40) N 0 b1
def f_X0_replaced (N : Nat) (b : Bd) (P : PL) (x1 : Int) (x2 : Int) (x3 : Int) : Option (Int × Bd × PL) :=
  bn (f_X0_start b) fun q1_1 =>
  bn (f_X0_putAll N q1_1 P x1) fun q6_2 =>
  bn (f_X0_putAll N q6_2.2 P x3) fun q12_3 =>
  f_X0_replaced_L20 N P x1 x2 q12_3.1 (fun (b_20 : Bd) =>
      jn (fun (s1_92 : Int) =>
          bn (f_X0_smallest N b_20 P s1_92) fun q92_18 =>
          some (q92_18.1, q92_18.2.1, q92_18.2.2)) fun j92 =>
      ck1 x2 <|
      if x2 ≠ 0 then
        j92 0
      else
        j92 q12_3.1) N 0 q12_3.2
def f_X0_cutOff_L35 (P1 : PL) (x1 : Int) (x2 : Int) (x3 : Int) (x4 : Int) (x5 : Int) (k : Bd → Option (Int × Bd × PL)) : Nat → Int → Bd → Option (Int × Bd × PL)
  | 0, _, _ => none
  | n + 1, x6, b1 =>
    ckG x1 P1 <|
    ck1 x6 <|
    ck1 ((gP P1 x1).1) <|
    if ((gP P1 x1).1) ≤ x6 then
      k b1
    else
      jn (fun (s0_57 : Int) =>
          bn (f_X2_headAt P1 x1 x6) fun q63_11 =>
          jn (fun (s2_85 : Int) =>
              jn (fun (s3_104 : Int) =>
                  bn (f_X0_put b1 q63_11 s2_85 s3_104) fun q104_12 =>
                  f_X0_cutOff_L35 P1 x1 x2 x3 x4 x5 k n (x6 + 1) q104_12.2) fun j104 =>
              ck1 s0_57 <|
              if s0_57 = 0 then
                bn (f_X2_partAt P1 x1 x6 1) fun q100_15 =>
                j104 (x5 + q100_15)
              else
                j104 x3) fun j85 =>
          ck1 s0_57 <|
          if s0_57 = 0 then
            bn (f_X2_partAt P1 x1 x6 0) fun q81_18 =>
            j85 (x5 + q81_18)
          else
            j85 x3) fun j57 =>
      ck1 (x4 + 1) <|
      ck1 x2 <|
      if (x4 + 1) ≠ x2 then
        j57 0
      else
        j57 1
def f_X0_cutOff_L15 (N : Nat) (P1 : PL) (x1 : Int) (x2 : Int) (x3 : Int) (k : Bd → Option (Int × Bd × PL)) : Nat → Int → Bd → Option (Int × Bd × PL)
  | 0, _, _ => none
  | n + 1, x4, b1 =>
    ck1 x4 <|
    ck1 x2 <|
    if x2 ≤ x4 then
      k b1
    else
      ckG x1 P1 <|
      f_X0_cutOff_L35 P1 x1 x2 x3 x4 ((b1 3 0) + ((gP P1 x1).1)) (fun (b_35 : Bd) =>
          f_X0_cutOff_L15 N P1 x1 x2 x3 k n (x4 + 1) b_35) N 0 b1
def f_X0_cutOff (N : Nat) (b : Bd) (P : PL) (x1 : Int) (x2 : Int) : Option (Int × Bd × PL) :=
  bn (f_X0_start b) fun q1_1 =>
  bn (f_X0_put q1_1 3 0 0) fun q8_2 =>
  f_X0_cutOff_L15 N P x1 x2 q8_2.1 (fun (b_15 : Bd) =>
      jn (fun (s1_132 : Int) =>
          bn (f_X0_smallest N b_15 P s1_132) fun q132_22 =>
          some (q132_22.1, q132_22.2.1, q132_22.2.2)) fun j132 =>
      ck1 x2 <|
      if x2 ≠ 0 then
        j132 (q8_2.1 + 1)
      else
        j132 q8_2.1) N 0 q8_2.2
def f_X0_turned_L6 (P1 : PL) (x1 : Int) (x2 : Int) (k : Bd → Option (Int × Bd × PL)) : Nat → Int → Bd → Option (Int × Bd × PL)
  | 0, _, _ => none
  | n + 1, x3, b1 =>
    ckG x1 P1 <|
    ck1 x3 <|
    ck1 ((gP P1 x1).1) <|
    if ((gP P1 x1).1) ≤ x3 then
      k b1
    else
      bn (f_X2_partAt P1 x1 x3 0) fun q17_6 =>
      bn (f_X2_partAt P1 x1 x3 1) fun q25_7 =>
      bn (f_X2_headAt P1 x1 x3) fun q32_8 =>
      ck1 q32_8 <|
      ck1 x2 <|
      if q32_8 ≠ x2 then
        bn (f_X2_headAt P1 x1 x3) fun q55_12 =>
        bn (f_X0_put b1 q55_12 q17_6 q25_7) fun q62_13 =>
        f_X0_turned_L6 P1 x1 x2 k n (x3 + 1) q62_13.2
      else
        bn (f_X0_put b1 x2 q25_7 q17_6) fun q45_14 =>
        f_X0_turned_L6 P1 x1 x2 k n (x3 + 1) q45_14.2
def f_X0_turned (N : Nat) (b : Bd) (P : PL) (x1 : Int) (x2 : Int) : Option (Int × Bd × PL) :=
  bn (f_X0_start b) fun q1_1 =>
  f_X0_turned_L6 P x1 x2 (fun (b_6 : Bd) =>
      bn (f_X0_smallest N b_6 P 0) fun q74_15 =>
      some (q74_15.1, q74_15.2.1, q74_15.2.2)) N 0 q1_1
def f_X0_drawn_L17 (x2 : Int) (k : Bd → Option (Int × Bd × PL)) : Nat → Int → Int → Bd → Option (Int × Bd × PL)
  | 0, _, _, _ => none
  | n + 1, x3, x5, b1 =>
    ck1 x5 <|
    ck1 x2 <|
    if x2 ≤ x5 then
      k b1
    else
      ckL ((x3 * 1103515245) + 12345) <|
      ckL (Int.tmod ((x3 * 1103515245) + 12345) 2147483648) <|
      ckL (Int.tdiv (Int.tmod ((x3 * 1103515245) + 12345) 2147483648) 65536) <|
      ckL (Int.tdiv (Int.tmod ((x3 * 1103515245) + 12345) 2147483648) 1024) <|
      ckL x2 <|
      ckZ x2 <|
      ckL (Int.tdiv (Int.tmod ((x3 * 1103515245) + 12345) 2147483648) 32768) <|
      bn (f_X0_put b1 (Int.tmod (Int.tdiv (Int.tmod ((x3 * 1103515245) + 12345) 2147483648) 65536) 7) (Int.tmod (Int.tdiv (Int.tmod ((x3 * 1103515245) + 12345) 2147483648) 1024) x2) (Int.tmod (Int.tdiv (Int.tmod ((x3 * 1103515245) + 12345) 2147483648) 32768) x2)) fun q66_15 =>
      f_X0_drawn_L17 x2 k n (Int.tmod ((x3 * 1103515245) + 12345) 2147483648) (x5 + 1) q66_15.2
def f_X0_drawn (N : Nat) (b : Bd) (P : PL) (x1 : Int) (x2 : Int) : Option (Int × Bd × PL) :=
  bn (f_X0_start b) fun q1_1 =>
  ck1 x2 <|
  if 1 ≤ x2 then
    ck1 x1 <|
    f_X0_drawn_L17 x2 (fun (b_17 : Bd) =>
        bn (f_X0_smallest N b_17 P 0) fun q78_16 =>
        some (q78_16.1, q78_16.2.1, q78_16.2.2)) N x1 0 q1_1
  else
    some ((-1), q1_1, P)
def f_X1_start (N : Nat) (c : Bd) (P : PL) (x1 : Int) (x2 : Int) : Option (Bd) :=
  ckG x1 P <|
  ckG x2 P <|
  bn (f_X5_fillRow N (c 5) 3200 ((2 * ((gP P x1).1)) * ((gP P x2).1)) (-1)) fun q31_3 =>
  some ((bS (bs0 (bs0 (bs0 c 0 x1) 1 x2) 3 0) 5 q31_3))
def f_X1_numberOf (c : Bd) (P : PL) (x1 : Int) (x2 : Int) (x3 : Int) : Option (Int) :=
  jn (fun (s0_15 : Int) =>
      ckG (c 1 0) P <|
      some (((s0_15 + x1) * ((gP P (c 1 0)).1)) + x2)) fun j15 =>
  ck1 x3 <|
  if x3 = 0 then
    j15 0
  else
    ckG (c 0 0) P <|
    j15 ((gP P (c 0 0)).1)
def f_X1_meet (c : Bd) (x1 : Int) (x2 : Int) (x3 : Int) : Option (Bd) :=
  ck1 x1 <|
  if x1 < 0 then
    some (c)
  else
    if 3200 ≤ x1 then
      some (c)
    else
      ck1 (c 3 0) <|
      if 3200 ≤ (c 3 0) then
        some (c)
      else
        ckA x1 3200 <|
        ck1 (c 5 x1) <|
        if (c 5 x1) = (-1) then
          ckA (c 3 0) 3200 <|
          some ((bS (bS (bs0 (bS c 2 (aS (c 2) (c 3 0) x1)) 3 ((c 3 0) + 1)) 4 (aS (c 4) (c 3 0) x3)) 5 (aS (c 5) x1 x2)))
        else
          some (c)
def f_X1_isAbout (c : Bd) (P : PL) (x1 : Int) : Option (Int) :=
  ckG (c 0 0) P <|
  ckG (c 1 0) P <|
  ck1 x1 <|
  ck1 (((gP P (c 0 0)).1) * ((gP P (c 1 0)).1)) <|
  jn (fun (s_24 : Int) =>
      ckB s_24 <|
      some (s_24)) fun j24 =>
  j24 (if x1 < (((gP P (c 0 0)).1) * ((gP P (c 1 0)).1)) then 0 else 1)
def f_X1_leftOf (c : Bd) (P : PL) (x1 : Int) : Option (Int) :=
  ckG (c 1 0) P <|
  jn (fun (s0_23 : Int) =>
      ckG (c 0 0) P <|
      ck1 s0_23 <|
      ck1 ((gP P (c 0 0)).1) <|
      if s0_23 < ((gP P (c 0 0)).1) then
        some (s0_23)
      else
        some (s0_23 - ((gP P (c 0 0)).1))) fun j23 =>
  ck1 ((gP P (c 1 0)).1) <|
  if ((gP P (c 1 0)).1) ≠ 0 then
    ck1 x1 <|
    ckZ ((gP P (c 1 0)).1) <|
    j23 (Int.tdiv x1 ((gP P (c 1 0)).1))
  else
    j23 0
def f_X1_rightOf (c : Bd) (P : PL) (x1 : Int) : Option (Int) :=
  ckG (c 1 0) P <|
  ck1 ((gP P (c 1 0)).1) <|
  if ((gP P (c 1 0)).1) ≠ 0 then
    ck1 x1 <|
    ckZ ((gP P (c 1 0)).1) <|
    some (Int.tmod x1 ((gP P (c 1 0)).1))
  else
    some (0)
def f_X1_headsGo (x0 : Int) (x1 : Int) (x2 : Int) : Option (Int) :=
  ck1 x0 <|
  ck1 x1 <|
  if x0 ≠ x1 then
    jn (
        jn (
            ck1 x2 <|
            if x2 ≠ 4 then
              some (0)
            else
              if x0 ≠ 2 then
                some (0)
              else
                if x1 ≠ 1 then
                  some (0)
                else
                  some (1)) fun j49 =>
        if x0 ≠ 1 then
          j49
        else
          if x1 ≠ 2 then
            j49
          else
            ck1 x2 <|
            if x2 = 1 then
              some (0)
            else
              if x2 = 3 then
                some (0)
              else
                some (1)) fun j23 =>
    ck1 x2 <|
    if x2 = 3 then
      j23
    else
      if x0 = 0 then
        some (1)
      else
        if x1 ≠ 3 then
          j23
        else
          some (1)
  else
    some (1)
def f_X1_meetParts_L35 (P : PL) (x1 : Int) (x2 : Int) (x3 : Int) (x4 : Int) (x5 : Int) (x6 : Int) (k : Bd → Option (Bd)) : Nat → Int → Bd → Option (Bd)
  | 0, _, _ => none
  | n + 1, x7, c1 =>
    ck1 x7 <|
    ck1 x6 <|
    if x6 ≤ x7 then
      k c1
    else
      bn (f_X1_isAbout c1 P x3) fun q44_9 =>
      jn (fun (s1_61 : Int) =>
          jn (fun (s0_69 : Int) =>
              ckG (c1 0 0) P <|
              bn (f_X2_partAt P (c1 0 0) x4 x7) fun q81_11 =>
              ckG (c1 1 0) P <|
              bn (f_X2_partAt P (c1 1 0) x5 x7) fun q92_13 =>
              bn (f_X1_numberOf c1 P q81_11 q92_13 s0_69) fun q97_14 =>
              bn (f_X1_meet c1 q97_14 1 ((2 * x1) + x7)) fun q107_15 =>
              f_X1_meetParts_L35 P x1 x2 x3 x4 x5 x6 k n (x7 + 1) q107_15) fun j69 =>
          ck1 q44_9 <|
          ck1 s1_61 <|
          if q44_9 = s1_61 then
            j69 0
          else
            j69 1) fun j61 =>
      jn (
          j61 0) fun j60 =>
      ck1 x2 <|
      if x2 = 0 then
        j60
      else
        if x7 ≠ 0 then
          j60
        else
          j61 1
def f_X1_meetParts (N : Nat) (c : Bd) (P : PL) (x1 : Int) (x2 : Int) : Option (Bd) :=
  ckA x1 3200 <|
  bn (f_X1_leftOf c P (c 2 x1)) fun q9_2 =>
  bn (f_X1_rightOf c P (c 2 x1)) fun q16_3 =>
  ckG (c 0 0) P <|
  bn (f_X2_partCount P (c 0 0) q9_2) fun q27_5 =>
  f_X1_meetParts_L35 P x1 x2 (c 2 x1) q9_2 q16_3 q27_5 (fun (c_35 : Bd) =>
      some (c_35)) N 0 c
def f_X1_firstFailing_L22 (N : Nat) (P : PL) (x3 : Int) (k : Bd → Option (Int × Bd)) : Nat → Int → Bd → Option (Int × Bd)
  | 0, _, _ => none
  | n + 1, x4, c1 =>
    ck1 x4 <|
    ck1 (c1 3 0) <|
    if (c1 3 0) ≤ x4 then
      k c1
    else
      if 3200 ≤ x4 then
        k c1
      else
        ckA x4 3200 <|
        bn (f_X1_isAbout c1 P (c1 2 x4)) fun q51_9 =>
        bn (f_X1_leftOf c1 P (c1 2 x4)) fun q63_10 =>
        ckG (c1 0 0) P <|
        bn (f_X2_headAt P (c1 0 0) q63_10) fun q66_12 =>
        bn (f_X1_rightOf c1 P (c1 2 x4)) fun q78_13 =>
        ckG (c1 1 0) P <|
        bn (f_X2_headAt P (c1 1 0) q78_13) fun q81_15 =>
        jn (fun (s0_98 : Int) =>
            jn (fun (s1_110 : Int) =>
                bn (f_X1_headsGo s0_98 s1_110 x3) fun q111_16 =>
                ck1 q111_16 <|
                if q111_16 ≠ 0 then
                  ck1 q66_12 <|
                  ck1 q81_15 <|
                  if q66_12 ≠ q81_15 then
                    f_X1_firstFailing_L22 N P x3 k n (x4 + 1) c1
                  else
                    jn (fun (s0_149 : Int) =>
                        bn (f_X1_meetParts N c1 P x4 s0_149) fun q156_22 =>
                        f_X1_firstFailing_L22 N P x3 k n (x4 + 1) q156_22) fun j149 =>
                    jn (
                        j149 0) fun j148 =>
                    if q66_12 ≠ 6 then
                      j148
                    else
                      ck1 x3 <|
                      if x3 = 2 then
                        j148
                      else
                        if x3 = 4 then
                          j148
                        else
                          j149 1
                else
                  some (x4, c1)) fun j110 =>
            ck1 q51_9 <|
            if q51_9 = 0 then
              j110 q81_15
            else
              j110 q66_12) fun j98 =>
        ck1 q51_9 <|
        if q51_9 = 0 then
          j98 q66_12
        else
          j98 q81_15
def f_X1_firstFailing (N : Nat) (c : Bd) (P : PL) (x1 : Int) (x2 : Int) (x3 : Int) : Option (Int × Bd) :=
  bn (f_X1_start N c P x1 x2) fun q3_1 =>
  bn (f_X1_numberOf q3_1 P 0 0 0) fun q11_2 =>
  bn (f_X1_meet q3_1 q11_2 1 (-1)) fun q16_3 =>
  f_X1_firstFailing_L22 N P x3 (fun (c_22 : Bd) =>
      some ((-1), c_22)) N 0 q16_3
def f_X1_stepCount_L4 (c : Bd) (k : Int → Option (Int)) : Nat → Int → Int → Option (Int)
  | 0, _, _ => none
  | n + 1, x2, x3 =>
    ck1 x3 <|
    if x3 < 0 then
      k x2
    else
      ck1 (c 3 0) <|
      if (c 3 0) ≤ x3 then
        k x2
      else
        ckA x3 3200 <|
        ck1 (c 4 x3) <|
        if (c 4 x3) = (-1) then
          k x2
        else
          ck1 x2 <|
          if 3200 ≤ x2 then
            k x2
          else
            f_X1_stepCount_L4 c k n (x2 + 1) (Int.tdiv (c 4 x3) 2)
def f_X1_stepCount (N : Nat) (c : Bd) (x1 : Int) : Option (Int) :=
  f_X1_stepCount_L4 c (fun (x2_4 : Int) =>
      some (x2_4)) N 0 x1
def f_X1_lastStep_L5 (c : Bd) (x2 : Int) (k : Int → Option (Int)) : Nat → Int → Int → Option (Int)
  | 0, _, _ => none
  | n + 1, x3, x4 =>
    ck1 x4 <|
    ck1 x2 <|
    if x2 ≤ x4 then
      k x3
    else
      ck1 x3 <|
      if x3 ≤ 0 then
        k x3
      else
        ck1 (c 3 0) <|
        if (c 3 0) ≤ x3 then
          k x3
        else
          ckA x3 3200 <|
          ck1 (c 4 x3) <|
          f_X1_lastStep_L5 c x2 k n (Int.tdiv (c 4 x3) 2) (x4 + 1)
def f_X1_lastStep (N : Nat) (c : Bd) (x1 : Int) (x2 : Int) : Option (Int) :=
  f_X1_lastStep_L5 c x2 (fun (x3_5 : Int) =>
      ck1 x3_5 <|
      if x3_5 ≤ 0 then
        some (0)
      else
        ck1 (c 3 0) <|
        if (c 3 0) ≤ x3_5 then
          some (0)
        else
          ckA x3_5 3200 <|
          ck1 (c 4 x3_5) <|
          some (Int.tmod (c 4 x3_5) 2)) N x1 0
def f_X1_sameDownTo_L37 (N : Nat) (P : PL) (x3 : Int) (x5 : Int) (x6 : Int) (k : Int → Bd → Option (Int × Bd)) : Nat → Int → Bd → Option (Int × Bd)
  | 0, _, _ => none
  | n + 1, x4, c1 =>
    ck1 x4 <|
    ck1 x6 <|
    if x6 ≤ x4 then
      k x4 c1
    else
      ckA x4 3200 <|
      bn (f_X1_leftOf c1 P (c1 2 x4)) fun q60_11 =>
      ckG (c1 0 0) P <|
      bn (f_X2_headAt P (c1 0 0) q60_11) fun q63_13 =>
      bn (f_X1_rightOf c1 P (c1 2 x4)) fun q73_14 =>
      ckG (c1 1 0) P <|
      bn (f_X2_headAt P (c1 1 0) q73_14) fun q76_16 =>
      ck1 q63_13 <|
      ck1 q76_16 <|
      if q63_13 = q76_16 then
        bn (f_X1_meetParts N c1 P x4 0) fun q88_20 =>
        f_X1_sameDownTo_L37 N P x3 x5 x6 k n (x4 + 1) q88_20
      else
        some (0, c1)
def f_X1_sameDownTo_L25 (N : Nat) (P : PL) (x3 : Int) (k : Bd → Option (Int × Bd)) : Nat → Int → Int → Bd → Option (Int × Bd)
  | 0, _, _, _ => none
  | n + 1, x4, x5, c1 =>
    ck1 x5 <|
    ck1 x3 <|
    if x3 < x5 then
      k c1
    else
      f_X1_sameDownTo_L37 N P x3 x5 (c1 3 0) (fun (x4_37 : Int) (c_37 : Bd) =>
          f_X1_sameDownTo_L25 N P x3 k n x4_37 (x5 + 1) c_37) N x4 c1
def f_X1_sameDownTo (N : Nat) (c : Bd) (P : PL) (x1 : Int) (x2 : Int) (x3 : Int) : Option (Int × Bd) :=
  bn (f_X1_start N c P x1 x2) fun q3_1 =>
  bn (f_X1_numberOf q3_1 P 0 0 0) fun q11_2 =>
  bn (f_X1_meet q3_1 q11_2 1 (-1)) fun q16_3 =>
  f_X1_sameDownTo_L25 N P x3 (fun (c_25 : Bd) =>
      some (1, c_25)) N 0 0 q16_3
def f_X1_boundHead (x0 : Int) (x1 : Int) (x2 : Int) : Option (Int) :=
  ck1 x0 <|
  ck1 x1 <|
  if x0 ≠ x1 then
    jn (
        if x0 ≠ 2 then
          ck1 x2 <|
          jn (fun (s_46 : Int) =>
              some (s_46)) fun j46 =>
          j46 (if x2 = 0 then 0 else 3)
        else
          if x1 ≠ 1 then
            ck1 x2 <|
            jn (fun (s_46 : Int) =>
                some (s_46)) fun j46 =>
            j46 (if x2 = 0 then 0 else 3)
          else
            ck1 x2 <|
            jn (fun (s_36 : Int) =>
                some (s_36)) fun j36 =>
            j36 (if x2 = 0 then 1 else 2)) fun j17 =>
    if x0 ≠ 1 then
      j17
    else
      if x1 = 2 then
        ck1 x2 <|
        jn (fun (s_36 : Int) =>
            some (s_36)) fun j36 =>
        j36 (if x2 = 0 then 1 else 2)
      else
        j17
  else
    some (x0)
def f_X1_boundNode (b : Bd) (c : Bd) (P : PL) (x1 : Int) (x2 : Int) (x3 : Int) : Option (Int × Bd × Bd) :=
  ckG (c 0 0) P <|
  bn (f_X2_headAt P (c 0 0) x1) fun q5_2 =>
  ckG (c 1 0) P <|
  bn (f_X2_headAt P (c 1 0) x2) fun q15_4 =>
  jn (fun (s0_29 : Int) =>
      ck1 q5_2 <|
      ck1 s0_29 <|
      if q5_2 ≠ s0_29 then
        ck1 q15_4 <|
        if q15_4 ≠ s0_29 then
          jn (fun (s3_69 : Int) =>
              bn (f_X1_numberOf c P x1 x2 s3_69) fun q69_10 =>
              ck1 q69_10 <|
              if q69_10 < 0 then
                some (0, b, c)
              else
                if q69_10 < 3200 then
                  ckA q69_10 3200 <|
                  ck1 (c 5 q69_10) <|
                  if (c 5 q69_10) ≠ (-1) then
                    some (c 5 q69_10, b, c)
                  else
                    bn (f_X1_boundHead q5_2 q15_4 x3) fun q110_17 =>
                    bn (f_X0_put b q110_17 0 0) fun q115_18 =>
                    bn (f_X1_meet c q69_10 q115_18.1 (-1)) fun q119_19 =>
                    some (q119_19 5 q69_10, q115_18.2, q119_19)
                else
                  some (0, b, c)) fun j69 =>
          ck1 x3 <|
          if x3 ≠ 0 then
            j69 0
          else
            j69 1
        else
          some (x1, b, c)
      else
        some (((gP P (c 0 0)).1) + x2, b, c)) fun j29 =>
  ck1 x3 <|
  if x3 = 0 then
    j29 3
  else
    j29 0
def f_X1_boundOf_L136 (P1 : PL) (x5 : Int) (x6 : Int) (x7 : Int) (x8 : Int) (x9 : Int) (x10 : Int) (x11 : Int) (x12 : Int) (k : Bd → Bd → Option (Int × Bd × Bd × PL)) : Nat → Int → Bd → Bd → Option (Int × Bd × Bd × PL)
  | 0, _, _, _ => none
  | n + 1, x13, b1, c1 =>
    ck1 x13 <|
    ck1 x12 <|
    if x12 ≤ x13 then
      k b1 c1
    else
      jn (fun (s1_162 : Int) =>
          jn (fun (s0_170 : Int) =>
              ckG (c1 0 0) P1 <|
              bn (f_X2_partAt P1 (c1 0 0) x8 x13) fun q181_22 =>
              ckG (c1 1 0) P1 <|
              bn (f_X2_partAt P1 (c1 1 0) x9 x13) fun q192_24 =>
              bn (f_X1_boundNode b1 c1 P1 q181_22 q192_24 s0_170) fun q199_25 =>
              ckA x7 3200 <|
              bn (f_X0_link q199_25.2.1 (q199_25.2.2 5 x7) x13 q199_25.1) fun q217_27 =>
              f_X1_boundOf_L136 P1 x5 x6 x7 x8 x9 x10 x11 x12 k n (x13 + 1) q217_27 q199_25.2.2) fun j170 =>
          ck1 x10 <|
          ck1 s1_162 <|
          if x10 = s1_162 then
            j170 0
          else
            j170 1) fun j162 =>
      jn (
          j162 0) fun j161 =>
      ck1 x11 <|
      if x11 ≠ 6 then
        j161
      else
        if x13 ≠ 0 then
          j161
        else
          j162 1
def f_X1_boundOf_L39 (N : Nat) (P1 : PL) (x5 : Int) (k : Bd → Bd → Option (Int × Bd × Bd × PL)) : Nat → Int → Bd → Bd → Option (Int × Bd × Bd × PL)
  | 0, _, _, _ => none
  | n + 1, x6, b1, c1 =>
    ck1 x6 <|
    ck1 (c1 3 0) <|
    if (c1 3 0) ≤ x6 then
      k b1 c1
    else
      if 3200 ≤ x6 then
        k b1 c1
      else
        ckA x6 3200 <|
        bn (f_X1_leftOf c1 P1 (c1 2 x6)) fun q68_11 =>
        bn (f_X1_rightOf c1 P1 (c1 2 x6)) fun q76_12 =>
        bn (f_X1_isAbout c1 P1 (c1 2 x6)) fun q84_13 =>
        jn (fun (s0_95 : Int) =>
            ckG (c1 0 0) P1 <|
            bn (f_X2_headAt P1 (c1 0 0) q68_11) fun q103_15 =>
            ckG (c1 1 0) P1 <|
            bn (f_X2_headAt P1 (c1 1 0) q76_12) fun q116_17 =>
            jn (fun (s0_131 : Int) =>
                f_X1_boundOf_L136 P1 x5 x6 (c1 2 x6) q68_11 q76_12 s0_95 q103_15 s0_131 (fun (b_136 : Bd) (c_136 : Bd) =>
                    f_X1_boundOf_L39 N P1 x5 k n (x6 + 1) b_136 c_136) N 0 b1 c1) fun j131 =>
            ck1 q103_15 <|
            ck1 q116_17 <|
            if q103_15 ≠ q116_17 then
              j131 0
            else
              bn (f_X5_partsOf q103_15) fun q124_37 =>
              j131 q124_37) fun j95 =>
        ck1 q84_13 <|
        if q84_13 ≠ 0 then
          j95 0
        else
          j95 1
def f_X1_boundOf (N : Nat) (b : Bd) (c : Bd) (P : PL) (x1 : Int) (x2 : Int) (x3 : Int) : Option (Int × Bd × Bd × PL) :=
  bn (f_X1_start N c P x1 x2) fun q3_1 =>
  bn (f_X0_start b) fun q8_2 =>
  bn (f_X0_putAll N q8_2 P x1) fun q14_3 =>
  bn (f_X0_putAll N q14_3.2 P x2) fun q21_4 =>
  bn (f_X1_boundNode q21_4.2 q3_1 P 0 0 x3) fun q31_5 =>
  f_X1_boundOf_L39 N P q31_5.1 (fun (b_39 : Bd) (c_39 : Bd) =>
      bn (f_X0_smallest N b_39 P q31_5.1) fun q236_40 =>
      some (q236_40.1, q236_40.2.1, c_39, q236_40.2.2)) N 0 q31_5.2.1 q31_5.2.2
def f_X4_isLetter (x0 : Int) : Option (Int) :=
  ck1 x0 <|
  if x0 < 97 then
    some (0)
  else
    if 104 < x0 then
      some (0)
    else
      some (1)
def f_X4_takesLetter (rd : Bd) (x1 : Int) (x2 : Int) : Option (Int × Bd) :=
  bn (f_X4_isLetter x1) fun q1_1 =>
  ck1 q1_1 <|
  if q1_1 = 0 then
    some (0, rd)
  else
    ckA (x1 - 97) 8 <|
    ck1 (rd 13 (x1 - 97)) <|
    if (rd 13 (x1 - 97)) ≠ (-1) then
      some (0, rd)
    else
      ck1 (rd 11 0) <|
      if (rd 11 0) < 8 then
        ckA (rd 11 0) 8 <|
        some (1, (bS (bs0 (bS (bs0 (bs0 rd 0 1) 1 (x1 - 97)) 10 (aS (rd 10) (rd 11 0) (x1 - 97))) 11 ((rd 11 0) + 1)) 13 (aS (rd 13) (x1 - 97) x2)))
      else
        some (0, rd)
def f_X4_pushOperator (rd : Bd) (x1 : Int) : Option (Int × Bd) :=
  ck1 (rd 9 0) <|
  if (rd 9 0) < 120 then
    ckA (rd 9 0) 120 <|
    some (1, (bs0 (bS rd 8 (aS (rd 8) (rd 9 0) x1)) 9 ((rd 9 0) + 1)))
  else
    some (0, rd)
def f_X4_newNode (rd : Bd) (x1 : Int) (x2 : Int) (x3 : Int) : Option (Int × Bd) :=
  ck1 (rd 5 0) <|
  if (rd 5 0) < 120 then
    ckA (rd 5 0) 120 <|
    some (rd 5 0, (bs0 (bS (bS (bS rd 2 (aS (rd 2) (rd 5 0) x1)) 3 (aS (rd 3) (rd 5 0) x2)) 4 (aS (rd 4) (rd 5 0) x3)) 5 ((rd 5 0) + 1)))
  else
    some (0, rd)
def f_X4_pushOperand (rd : Bd) (x1 : Int) : Option (Int × Bd) :=
  ck1 (rd 7 0) <|
  if (rd 7 0) < 120 then
    ckA (rd 7 0) 120 <|
    some (1, (bs0 (bS rd 6 (aS (rd 6) (rd 7 0) x1)) 7 ((rd 7 0) + 1)))
  else
    some (0, rd)
def f_X4_takesAtom (rd : Bd) (x1 : Int) (x2 : Int) : Option (Int × Bd) :=
  jn (
      bn (f_X4_pushOperator rd x1) fun q14_1 =>
      ckB q14_1.1 <|
      some (q14_1.1, q14_1.2)) fun j12 =>
  ck1 x1 <|
  if x1 = 91 then
    j12
  else
    if x1 ≠ 40 then
      jn (
          bn (f_X4_isLetter x1) fun q51_6 =>
          ck1 q51_6 <|
          if q51_6 = 0 then
            some (0, (bs0 rd 0 3))
          else
            bn (f_X4_newNode (bs0 rd 0 3) 7 (x1 - 97) x2) fun q66_9 =>
            bn (f_X4_pushOperand q66_9.2 q66_9.1) fun q69_10 =>
            ck1 q69_10.1 <|
            if q69_10.1 = 0 then
              some (0, q69_10.2)
            else
              some (1, q69_10.2)) fun j50 =>
      if x1 < 48 then
        j50
      else
        if 51 < x1 then
          j50
        else
          bn (f_X4_newNode (bs0 rd 0 3) (x1 - 48) 0 0) fun q43_15 =>
          bn (f_X4_pushOperand q43_15.2 q43_15.1) fun q46_16 =>
          ckB q46_16.1 <|
          some (q46_16.1, q46_16.2)
    else
      j12
def f_X4_topOperator (rd : Bd) : Option (Int) :=
  ck1 (rd 9 0) <|
  if (rd 9 0) ≤ 0 then
    some ((-1))
  else
    ckA ((rd 9 0) - 1) 120 <|
    some (rd 8 ((rd 9 0) - 1))
def f_X4_popOperand (rd : Bd) : Option (Int × Bd) :=
  ck1 (rd 7 0) <|
  if (rd 7 0) ≠ 0 then
    ckA ((rd 7 0) - 1) 120 <|
    some (rd 6 ((rd 7 0) - 1), (bs0 rd 7 ((rd 7 0) - 1)))
  else
    some (0, rd)
def f_X4_joinTwo (rd : Bd) (x1 : Int) : Option (Bd) :=
  bn (f_X4_popOperand (bs0 rd 9 ((rd 9 0) - 1))) fun q11_1 =>
  bn (f_X4_popOperand q11_1.2) fun q16_2 =>
  bn (f_X4_newNode q16_2.2 x1 q16_2.1 q11_1.1) fun q25_3 =>
  bn (f_X4_pushOperand q25_3.2 q25_3.1) fun q28_4 =>
  some (q28_4.2)
def f_X4_joinPairs_L2  (k : Bd → Option (Bd)) : Nat → Int → Bd → Option (Bd)
  | 0, _, _ => none
  | n + 1, x1, rd1 =>
    ck1 x1 <|
    if 120 ≤ x1 then
      k rd1
    else
      bn (f_X4_topOperator rd1) fun q9_3 =>
      ck1 q9_3 <|
      if q9_3 ≠ 42 then
        k rd1
      else
        bn (f_X4_joinTwo rd1 5) fun q19_6 =>
        f_X4_joinPairs_L2 k n (x1 + 1) q19_6
def f_X4_joinPairs (N : Nat) (rd : Bd) : Option (Bd) :=
  f_X4_joinPairs_L2  (fun (rd_2 : Bd) =>
      some (rd_2)) N 0 rd
def f_X4_joinAll_L7  (k : Bd → Option (Bd)) : Nat → Int → Int → Bd → Option (Bd)
  | 0, _, _, _ => none
  | n + 1, x1, x2, rd1 =>
    ck1 x2 <|
    if 120 ≤ x2 then
      k rd1
    else
      jn (
          jn (fun (s1_38 : Int) =>
              bn (f_X4_joinTwo rd1 s1_38) fun q38_4 =>
              bn (f_X4_topOperator q38_4) fun q42_5 =>
              f_X4_joinAll_L7 k n q42_5 (x2 + 1) q38_4) fun j38 =>
          ck1 x1 <|
          if x1 ≠ 42 then
            j38 6
          else
            j38 5) fun j25 =>
      ck1 x1 <|
      if x1 = 42 then
        j25
      else
        if x1 ≠ 62 then
          k rd1
        else
          j25
def f_X4_joinAll (N : Nat) (rd : Bd) : Option (Bd) :=
  bn (f_X4_topOperator rd) fun q1_1 =>
  f_X4_joinAll_L7  (fun (rd_7 : Bd) =>
      some (rd_7)) N q1_1 0 rd
def f_X4_popOperator (rd : Bd) (x1 : Int) : Option (Int × Bd) :=
  bn (f_X4_topOperator rd) fun q1_1 =>
  ck1 q1_1 <|
  ck1 x1 <|
  if q1_1 = x1 then
    some (1, (bs0 rd 9 ((rd 9 0) - 1)))
  else
    some (0, rd)
def f_X4_endEquation (rd : Bd) : Option (Int × Bd) :=
  ck1 (rd 9 0) <|
  if (rd 9 0) ≠ 0 then
    some (0, rd)
  else
    ck1 (rd 7 0) <|
    if (rd 7 0) = 1 then
      bn (f_X4_popOperand rd) fun q26_5 =>
      ckA (rd 1 0) 8 <|
      some (1, (bS (bs0 q26_5.2 0 0) 12 (aS (q26_5.2 12) (rd 1 0) q26_5.1)))
    else
      some (0, rd)
def f_X4_takesBehind (N : Nat) (rd : Bd) (x1 : Int) : Option (Int × Bd) :=
  ck1 x1 <|
  if x1 = 41 then
    bn (f_X4_joinAll N rd) fun q68_4 =>
    bn (f_X4_popOperator q68_4 40) fun q74_5 =>
    ckB q74_5.1 <|
    some (q74_5.1, q74_5.2)
  else
  if x1 = 42 then
    bn (f_X4_joinPairs N rd) fun q53_8 =>
    bn (f_X4_pushOperator (bs0 q53_8 0 2) x1) fun q63_9 =>
    ckB q63_9.1 <|
    some (q63_9.1, q63_9.2)
  else
  if x1 = 59 then
    bn (f_X4_joinAll N rd) fun q115_12 =>
    bn (f_X4_endEquation q115_12) fun q119_13 =>
    ckB q119_13.1 <|
    some (q119_13.1, q119_13.2)
  else
  if x1 = 62 then
    bn (f_X4_joinPairs N rd) fun q53_16 =>
    bn (f_X4_pushOperator (bs0 q53_16 0 2) x1) fun q63_17 =>
    ckB q63_17.1 <|
    some (q63_17.1, q63_17.2)
  else
  if x1 = 93 then
    bn (f_X4_joinAll N rd) fun q79_20 =>
    bn (f_X4_popOperator q79_20 91) fun q85_21 =>
    ck1 q85_21.1 <|
    if q85_21.1 = 0 then
      some (0, q85_21.2)
    else
      bn (f_X4_popOperand q85_21.2) fun q95_24 =>
      bn (f_X4_newNode q95_24.2 4 q95_24.1 0) fun q99_25 =>
      bn (f_X4_pushOperand q99_25.2 q99_25.1) fun q102_26 =>
      ck1 q102_26.1 <|
      if q102_26.1 = 0 then
        some (0, q102_26.2)
      else
        some (1, q102_26.2)
  else
    some (0, rd)
def f_X4_takes (N : Nat) (rd : Bd) (x1 : Int) (x2 : Int) : Option (Int × Bd) :=
  ck1 (rd 0 0) <|
  if (rd 0 0) = 0 then
    bn (f_X4_takesLetter rd x1 x2) fun q35_4 =>
    ckB q35_4.1 <|
    some (q35_4.1, q35_4.2)
  else
  if (rd 0 0) = 1 then
    ck1 x1 <|
    jn (fun (s_55 : Int) =>
        ckB s_55 <|
        some (s_55, (bs0 rd 0 2))) fun j55 =>
    j55 (if x1 ≠ 61 then 0 else 1)
  else
  if (rd 0 0) = 2 then
    bn (f_X4_takesAtom rd x1 x2) fun q59_11 =>
    ckB q59_11.1 <|
    some (q59_11.1, q59_11.2)
  else
    bn (f_X4_takesBehind N rd x1) fun q65_13 =>
    ckB q65_13.1 <|
    some (q65_13.1, q65_13.2)
def f_X4_strangeLetter_L2 (lt : Bd) (rd : Bd) (k : Option (Int)) : Nat → Int → Option (Int)
  | 0, _ => none
  | n + 1, x2 =>
    ck1 x2 <|
    ck1 (rd 5 0) <|
    if (rd 5 0) ≤ x2 then
      k
    else
      ckA x2 120 <|
      ck1 (rd 2 x2) <|
      if (rd 2 x2) ≠ 7 then
        f_X4_strangeLetter_L2 lt rd k n (x2 + 1)
      else
        ckA (rd 3 x2) 8 <|
        ck1 (rd 12 (rd 3 x2)) <|
        if (rd 12 (rd 3 x2)) ≠ (-1) then
          f_X4_strangeLetter_L2 lt rd k n (x2 + 1)
        else
          if (lt 3 (rd 3 x2)) < 0 then
            some (rd 4 x2)
          else
            f_X4_strangeLetter_L2 lt rd k n (x2 + 1)
def f_X4_strangeLetter (N : Nat) (lt : Bd) (rd : Bd) : Option (Int) :=
  f_X4_strangeLetter_L2 lt rd (
      some ((-1))) N 0
def f_X4_letterBehind (rd : Bd) (x1 : Int) : Option (Int) :=
  ckA x1 8 <|
  ck1 (rd 12 x1) <|
  if (rd 12 x1) = (-1) then
    some ((-1))
  else
    ckA (rd 12 x1) 120 <|
    ck1 (rd 2 (rd 12 x1)) <|
    if (rd 2 (rd 12 x1)) ≠ 7 then
      some ((-1))
    else
      some (rd 3 (rd 12 x1))
def f_X4_emptyLetter_L26 (rd : Bd) (x1 : Int) (x2 : Int) (k : Int → Option (Int)) : Nat → Int → Int → Option (Int)
  | 0, _, _ => none
  | n + 1, x3, x4 =>
    ck1 x4 <|
    if 8 ≤ x4 then
      k x3
    else
      ck1 x3 <|
      if x3 = (-1) then
        k x3
      else
        ck1 x2 <|
        if x3 = x2 then
          k x3
        else
          bn (f_X4_letterBehind rd x3) fun q45_12 =>
          f_X4_emptyLetter_L26 rd x1 x2 k n q45_12 (x4 + 1)
def f_X4_emptyLetter_L2 (N : Nat) (rd : Bd) (k : Option (Int)) : Nat → Int → Option (Int)
  | 0, _ => none
  | n + 1, x1 =>
    ck1 x1 <|
    ck1 (rd 11 0) <|
    if (rd 11 0) ≤ x1 then
      k
    else
      ckA x1 8 <|
      bn (f_X4_letterBehind rd (rd 10 x1)) fun q19_5 =>
      f_X4_emptyLetter_L26 rd x1 (rd 10 x1) (fun (x3_26 : Int) =>
          ck1 x3_26 <|
          ck1 (rd 10 x1) <|
          if x3_26 ≠ (rd 10 x1) then
            f_X4_emptyLetter_L2 N rd k n (x1 + 1)
          else
            ckA (rd 10 x1) 8 <|
            some (rd 13 (rd 10 x1))) N q19_5 0
def f_X4_emptyLetter (N : Nat) (rd : Bd) : Option (Int) :=
  f_X4_emptyLetter_L2 N rd (
      some ((-1))) N 0
def f_X4_faultOf_L48 (N : Nat) (lt : Bd) (x2 : Int) (k : Bd → Option (Int × Bd)) : Nat → Int → Bd → Option (Int × Bd)
  | 0, _, _ => none
  | n + 1, x4, rd1 =>
    ck1 x4 <|
    ck1 x2 <|
    if x2 ≤ x4 then
      k rd1
    else
      if 120 ≤ x4 then
        k rd1
      else
        ckA x4 120 <|
        ck1 (lt 0 x4) <|
        if (lt 0 x4) = 32 then
          f_X4_faultOf_L48 N lt x2 k n (x4 + 1) rd1
        else
          bn (f_X4_takes N rd1 (lt 0 x4) x4) fun q77_10 =>
          ck1 q77_10.1 <|
          if q77_10.1 ≠ 0 then
            f_X4_faultOf_L48 N lt x2 k n (x4 + 1) q77_10.2
          else
            some (x4, q77_10.2)
def f_X4_faultOf (N : Nat) (lt : Bd) (rd : Bd) (x2 : Int) : Option (Int × Bd) :=
  bn (f_X5_fillRow N (rd 12) 8 8 (-1)) fun q32_1 =>
  bn (f_X5_fillRow N (rd 13) 8 8 (-1)) fun q42_2 =>
  f_X4_faultOf_L48 N lt x2 (fun (rd_48 : Bd) =>
      ck1 (rd_48 0 0) <|
      if (rd_48 0 0) ≠ 0 then
        some (x2, rd_48)
      else
        ck1 (rd_48 11 0) <|
        if (rd_48 11 0) ≠ 0 then
          bn (f_X4_strangeLetter N lt rd_48) fun q110_17 =>
          ck1 q110_17 <|
          if q110_17 = (-1) then
            bn (f_X4_emptyLetter N rd_48) fun q127_20 =>
            some (q127_20, rd_48)
          else
            some (q110_17, rd_48)
        else
          some (x2, rd_48)) N 0 (bS (bS (bs0 (bs0 (bs0 (bs0 (bs0 rd 0 0) 5 0) 7 0) 9 0) 11 0) 12 q32_1) 13 q42_2)
def f_X4_standsFor_L4 (rd : Bd) (k : Option (Int)) : Nat → Int → Int → Option (Int)
  | 0, _, _ => none
  | n + 1, x2, x3 =>
    ck1 x3 <|
    if 8 < x3 then
      k
    else
      ck1 x2 <|
      if x2 < 0 then
        k
      else
        ck1 (rd 5 0) <|
        if (rd 5 0) ≤ x2 then
          k
        else
          ckA x2 120 <|
          ck1 (rd 2 x2) <|
          if (rd 2 x2) = 7 then
            ckA (rd 3 x2) 8 <|
            ck1 (rd 12 (rd 3 x2)) <|
            if (rd 12 (rd 3 x2)) ≠ (-1) then
              f_X4_standsFor_L4 rd k n (rd 12 (rd 3 x2)) (x3 + 1)
            else
              some (rd 15 (rd 3 x2))
          else
            some (rd 14 x2)
def f_X4_standsFor (N : Nat) (rd : Bd) (x1 : Int) : Option (Int) :=
  f_X4_standsFor_L4 rd (
      some ((-1))) N x1 0
def f_X4_layOut_L6 (N : Nat) (lt : Bd) (P : PL) (k : Bd → Bd → Option (Bd × Bd)) : Nat → Int → Bd → Bd → Option (Bd × Bd)
  | 0, _, _, _ => none
  | n + 1, x3, b1, rd1 =>
    ck1 x3 <|
    if 8 ≤ x3 then
      k b1 rd1
    else
      ckA x3 8 <|
      jn (fun (s0_33 : Int) =>
          ck1 s0_33 <|
          if s0_33 = 0 then
            f_X4_layOut_L6 N lt P k n (x3 + 1) b1 (bS rd1 15 (aS (rd1 15) x3 (-1)))
          else
            bn (f_X0_putAll N b1 P (lt 3 x3)) fun q49_7 =>
            f_X4_layOut_L6 N lt P k n (x3 + 1) q49_7.2 (bS rd1 15 (aS (rd1 15) x3 q49_7.1))) fun j33 =>
      jn (
          j33 0) fun j32 =>
      ck1 (rd1 12 x3) <|
      if (rd1 12 x3) ≠ (-1) then
        j32
      else
        if (lt 3 x3) < 0 then
          j32
        else
          j33 1
def f_X4_layOut_L65  (k : Bd → Bd → Option (Bd × Bd)) : Nat → Int → Bd → Bd → Option (Bd × Bd)
  | 0, _, _, _ => none
  | n + 1, x3, b1, rd1 =>
    ck1 x3 <|
    ck1 (rd1 5 0) <|
    if (rd1 5 0) ≤ x3 then
      k b1 rd1
    else
      ckA x3 120 <|
      ck1 (rd1 2 x3) <|
      if (rd1 2 x3) ≠ 7 then
        bn (f_X0_put b1 (rd1 2 x3) 0 0) fun q102_17 =>
        f_X4_layOut_L65 k n (x3 + 1) q102_17.2 (bS rd1 14 (aS (rd1 14) x3 q102_17.1))
      else
        f_X4_layOut_L65 k n (x3 + 1) b1 (bS rd1 14 (aS (rd1 14) x3 (-1)))
def f_X4_layOut_L151 (N : Nat) (rd1 : Bd) (x3 : Int) (x4 : Int) (k : Bd → Option (Bd × Bd)) : Nat → Int → Bd → Option (Bd × Bd)
  | 0, _, _ => none
  | n + 1, x5, b1 =>
    ck1 x5 <|
    ck1 x4 <|
    if x4 ≤ x5 then
      k b1
    else
      ckA x3 120 <|
      jn (fun (s4_188 : Int) =>
          bn (f_X4_standsFor N rd1 s4_188) fun q188_26 =>
          bn (f_X0_link b1 (rd1 14 x3) x5 q188_26) fun q191_27 =>
          f_X4_layOut_L151 N rd1 x3 x4 k n (x5 + 1) q191_27) fun j188 =>
      if x5 ≠ 0 then
        j188 (rd1 4 x3)
      else
        j188 (rd1 3 x3)
def f_X4_layOut_L114 (N : Nat) (rd1 : Bd) (k : Bd → Option (Bd × Bd)) : Nat → Int → Bd → Option (Bd × Bd)
  | 0, _, _ => none
  | n + 1, x3, b1 =>
    ck1 x3 <|
    ck1 (rd1 5 0) <|
    if (rd1 5 0) ≤ x3 then
      k b1
    else
      ckA x3 120 <|
      jn (fun (s0_146 : Int) =>
          f_X4_layOut_L151 N rd1 x3 s0_146 (fun (b_151 : Bd) =>
              f_X4_layOut_L114 N rd1 k n (x3 + 1) b_151) N 0 b1) fun j146 =>
      ck1 (rd1 2 x3) <|
      if (rd1 2 x3) ≠ 7 then
        bn (f_X5_partsOf (rd1 2 x3)) fun q143_31 =>
        j146 q143_31
      else
        j146 0
def f_X4_layOut (N : Nat) (lt : Bd) (b : Bd) (rd : Bd) (P : PL) : Option (Bd × Bd) :=
  bn (f_X0_start b) fun q1_1 =>
  f_X4_layOut_L6 N lt P (fun (b_6 : Bd) (rd_6 : Bd) =>
      f_X4_layOut_L65  (fun (b_65 : Bd) (rd_65 : Bd) =>
          f_X4_layOut_L114 N rd_65 (fun (b_114 : Bd) =>
              some (b_114, rd_65)) N 0 b_65) N 0 b_6 rd_6) N 0 q1_1 rd
def f_X4_equationCount (rd : Bd) : Option (Int) :=
  some (rd 11 0)
def f_X4_letterOf (rd : Bd) (x1 : Int) : Option (Int) :=
  ck1 x1 <|
  if x1 < 0 then
    some (0)
  else
    ck1 (rd 11 0) <|
    if (rd 11 0) ≤ x1 then
      some (0)
    else
      ckA x1 8 <|
      some (rd 10 x1)
def f_X4_rootOf (N : Nat) (rd : Bd) (x1 : Int) : Option (Int) :=
  bn (f_X4_letterOf rd x1) fun q7_1 =>
  ckA q7_1 8 <|
  bn (f_X4_standsFor N rd (rd 12 q7_1)) fun q11_3 =>
  some (q11_3)
def f_X6_in (x0 : Int) (x1 : Int) (x2 : Int) : Option (Int) :=
  ck1 x0 <|
  ck1 x1 <|
  if x0 < x1 then
    some (0)
  else
    ck1 x2 <|
    if x2 < x0 then
      some (0)
    else
      some (1)
def f_X6_refuses (m : Bd) (x1 : Int) : Option (Int × Bd) :=
  ckA ((-2) - x1) 3 <|
  some (x1, (bS m 5 (aS (m 5) ((-2) - x1) ((m 5 ((-2) - x1)) + 1))))
def f_X6_type (m : Bd) (x1 : Int) : Option (Int × Bd) :=
  bn (f_X6_in x1 0 127) fun q4_1 =>
  ck1 q4_1 <|
  if q4_1 ≠ 0 then
    ck1 (m 8 0) <|
    if (m 8 0) ≠ 120 then
      ckA (m 8 0) 120 <|
      some ((m 8 0) + 1, (bs0 (bS m 7 (aS (m 7) (m 8 0) x1)) 8 ((m 8 0) + 1)))
    else
      bn (f_X6_refuses m (-4)) fun q29_7 =>
      some (q29_7.1, q29_7.2)
  else
    bn (f_X6_refuses m (-2)) fun q13_8 =>
    some (q13_8.1, q13_8.2)
def f_X6_clear (m : Bd) : Option (Int × Bd) :=
  some (m 8 0, (bs0 m 8 0))
def f_X6_byteAt (m : Bd) (x1 : Int) : Option (Int) :=
  ck1 x1 <|
  ck1 (m 8 0) <|
  if (m 8 0) ≤ x1 then
    some ((-1))
  else
    ckA x1 120 <|
    some (m 7 x1)
def f_X6_skips_L0  (k : Bd → Option (Bd)) : Nat → Bd → Option (Bd)
  | 0, _ => none
  | n + 1, m1 =>
    bn (f_X6_byteAt m1 (m1 22 0)) fun q5_1 =>
    ck1 q5_1 <|
    if q5_1 ≠ 32 then
      k m1
    else
      f_X6_skips_L0 k n (bs0 m1 22 ((m1 22 0) + 1))
def f_X6_skips (N : Nat) (m : Bd) : Option (Bd) :=
  f_X6_skips_L0  (fun (m_0 : Bd) =>
      some (m_0)) N m
def f_X6_node (x0 : Int) (x1 : Int) (x2 : Int) : Option (Int) :=
  some (i_or (i_or x0 (i_shl x1 3)) (i_shl x2 15))
def f_X6_adds (m : Bd) (x1 : Int) (x2 : Int) (x3 : Int) : Option (Int × Bd) :=
  bn (f_X6_node x1 x2 x3) fun q11_1 =>
  ckA (m 10 0) 3400 <|
  some (((m 10 0) + 1) - 1, (bs0 (bS m 9 (aS (m 9) (m 10 0) q11_1)) 10 ((m 10 0) + 1)))
def f_X6_waits (m : Bd) (x1 : Int) : Option (Bd) :=
  ckA (m 30 0) 130 <|
  some ((bs0 (bS m 29 (aS (m 29) (m 30 0) x1)) 30 ((m 30 0) + 1)))
def f_X6_opens (m : Bd) (x1 : Int) : Option (Bd) :=
  ckA (m 28 0) 130 <|
  some ((bs0 (bS m 27 (aS (m 27) (m 28 0) x1)) 28 ((m 28 0) + 1)))
def f_X6_does_L0 (x1 : Int) (k : Bd → Option (Bd)) : Nat → Bd → Option (Bd)
  | 0, _ => none
  | n + 1, m1 =>
    ck1 (m1 28 0) <|
    if (m1 28 0) ≤ 0 then
      k m1
    else
      ckA ((m1 28 0) - 1) 130 <|
      jn (
          jn (fun (s3_94 : Int) =>
              ckA (((m1 30 0) - 1) - 1) 130 <|
              ckA ((m1 30 0) - 1) 130 <|
              bn (f_X6_adds (bs0 (bs0 m1 28 ((m1 28 0) - 1)) 30 ((m1 30 0) - 1)) s3_94 (m1 29 (((m1 30 0) - 1) - 1)) (m1 29 ((m1 30 0) - 1))) fun q114_6 =>
              f_X6_does_L0 x1 k n (bS q114_6.2 29 (aS (q114_6.2 29) (((m1 30 0) - 1) - 1) q114_6.1))) fun j94 =>
          ck1 (m1 27 ((m1 28 0) - 1)) <|
          if (m1 27 ((m1 28 0) - 1)) ≠ 42 then
            j94 6
          else
            j94 5) fun j43 =>
      ck1 (m1 27 ((m1 28 0) - 1)) <|
      if (m1 27 ((m1 28 0) - 1)) = 42 then
        j43
      else
        ck1 x1 <|
        if x1 ≠ 0 then
          k m1
        else
          if (m1 27 ((m1 28 0) - 1)) ≠ 62 then
            k m1
          else
            j43
def f_X6_does (N : Nat) (m : Bd) (x1 : Int) : Option (Bd) :=
  f_X6_does_L0 x1 (fun (m_0 : Bd) =>
      some (m_0)) N m
def f_X6_bracket_L4 (m : Bd) (k : Int → Option (Int)) : Nat → Int → Int → Option (Int)
  | 0, _, _ => none
  | n + 1, x1, x2 =>
    ck1 x2 <|
    ck1 (m 28 0) <|
    if (m 28 0) ≤ x2 then
      k x1
    else
      ckA x2 130 <|
      jn (
          f_X6_bracket_L4 m k n (m 27 x2) (x2 + 1)) fun j34 =>
      ck1 (m 27 x2) <|
      if (m 27 x2) = 40 then
        j34
      else
        if (m 27 x2) ≠ 91 then
          f_X6_bracket_L4 m k n x1 (x2 + 1)
        else
          j34
def f_X6_bracket (N : Nat) (m : Bd) : Option (Int) :=
  f_X6_bracket_L4 m (fun (x1_4 : Int) =>
      some (x1_4)) N 0 0
def f_X6_readsTerm_L12 (N : Nat) : Nat → Int → Bd → Option (Int × Bd)
  | 0, _, _ => none
  | n + 1, x1, m1 =>
    bn (f_X6_skips N m1) fun q13_1 =>
    bn (f_X6_byteAt q13_1 (q13_1 22 0)) fun q21_2 =>
    jn (
        jn (
            jn (
                jn (
                    jn (
                        jn (
                            jn (
                                ck1 x1 <|
                                if x1 ≠ 0 then
                                  some ((-1), q13_1)
                                else
                                  ck1 q21_2 <|
                                  if q21_2 ≠ 59 then
                                    some ((-1), q13_1)
                                  else
                                    bn (f_X6_bracket N q13_1) fun q304_7 =>
                                    ck1 q304_7 <|
                                    if q304_7 ≠ 0 then
                                      some ((-1), q13_1)
                                    else
                                      bn (f_X6_does N q13_1 0) fun q312_10 =>
                                      some (q312_10 29 0, (bs0 q312_10 22 ((q312_10 22 0) + 1)))) fun j293 =>
                            ck1 x1 <|
                            if x1 ≠ 0 then
                              j293
                            else
                              ck1 q21_2 <|
                              if q21_2 ≠ 93 then
                                j293
                              else
                                bn (f_X6_bracket N q13_1) fun q239_15 =>
                                ck1 q239_15 <|
                                if q239_15 ≠ 91 then
                                  j293
                                else
                                  bn (f_X6_does N q13_1 0) fun q249_18 =>
                                  ckA ((q249_18 30 0) - 1) 130 <|
                                  bn (f_X6_adds (bs0 q249_18 28 ((q249_18 28 0) - 1)) 4 (q249_18 29 ((q249_18 30 0) - 1)) 0) fun q286_20 =>
                                  f_X6_readsTerm_L12 N n x1 (bS (bs0 q286_20.2 22 ((q286_20.2 22 0) + 1)) 29 (aS (q286_20.2 29) ((q249_18 30 0) - 1) q286_20.1))) fun j228 =>
                        ck1 x1 <|
                        if x1 ≠ 0 then
                          j228
                        else
                          ck1 q21_2 <|
                          if q21_2 ≠ 41 then
                            j228
                          else
                            bn (f_X6_bracket N q13_1) fun q202_25 =>
                            ck1 q202_25 <|
                            if q202_25 ≠ 40 then
                              j228
                            else
                              bn (f_X6_does N q13_1 0) fun q212_28 =>
                              f_X6_readsTerm_L12 N n x1 (bs0 (bs0 q212_28 22 ((q212_28 22 0) + 1)) 28 ((q212_28 28 0) - 1))) fun j191 =>
                    ck1 x1 <|
                    if x1 ≠ 0 then
                      j191
                    else
                      ck1 q21_2 <|
                      if q21_2 ≠ 62 then
                        j191
                      else
                        bn (f_X6_does N q13_1 1) fun q178_33 =>
                        bn (f_X6_opens q178_33 q21_2) fun q183_34 =>
                        f_X6_readsTerm_L12 N n 1 (bs0 q183_34 22 ((q183_34 22 0) + 1))) fun j166 =>
                ck1 x1 <|
                if x1 ≠ 0 then
                  j166
                else
                  ck1 q21_2 <|
                  if q21_2 ≠ 42 then
                    j166
                  else
                    bn (f_X6_does N q13_1 1) fun q153_39 =>
                    bn (f_X6_opens q153_39 q21_2) fun q158_40 =>
                    f_X6_readsTerm_L12 N n 1 (bs0 q158_40 22 ((q158_40 22 0) + 1))) fun j141 =>
            ck1 x1 <|
            if x1 = 0 then
              j141
            else
              jn (
                  bn (f_X6_opens q13_1 q21_2) fun q135_43 =>
                  f_X6_readsTerm_L12 N n x1 (bs0 q135_43 22 ((q135_43 22 0) + 1))) fun j133 =>
              ck1 q21_2 <|
              if q21_2 = 40 then
                j133
              else
                if q21_2 ≠ 91 then
                  j141
                else
                  j133) fun j117 =>
        ck1 x1 <|
        if x1 = 0 then
          j117
        else
          bn (f_X6_in q21_2 97 104) fun q68_49 =>
          ck1 q68_49 <|
          if q68_49 = 0 then
            j117
          else
            bn (f_X6_adds q13_1 7 (q21_2 - 97) 0) fun q83_52 =>
            bn (f_X6_waits q83_52.2 q83_52.1) fun q86_53 =>
            ckA (q86_53 26 0) 130 <|
            f_X6_readsTerm_L12 N n 0 (bs0 (bS (bs0 q86_53 22 ((q86_53 22 0) + 1)) 25 (aS (q86_53 25) (q86_53 26 0) (q86_53 22 0))) 26 ((q86_53 26 0) + 1))) fun j59 =>
    ck1 x1 <|
    if x1 = 0 then
      j59
    else
      bn (f_X6_in q21_2 48 51) fun q34_57 =>
      ck1 q34_57 <|
      if q34_57 = 0 then
        j59
      else
        bn (f_X6_adds q13_1 (q21_2 - 48) 0 0) fun q48_60 =>
        bn (f_X6_waits q48_60.2 q48_60.1) fun q51_61 =>
        f_X6_readsTerm_L12 N n 0 (bs0 q51_61 22 ((q51_61 22 0) + 1))
def f_X6_readsTerm (N : Nat) (m : Bd) : Option (Int × Bd) :=
  f_X6_readsTerm_L12 N N 1 (bs0 (bs0 m 28 0) 30 0)
def f_X6_headOf (x0 : Int) : Option (Int) :=
  some (i_and x0 7)
def f_X6_partOf (x0 : Int) (x1 : Int) : Option (Int) :=
  ck1 x1 <|
  if x1 ≠ 0 then
    some (i_and (i_shr x0 15) 4095)
  else
    some (i_and (i_shr x0 3) 4095)
def f_X6_comesBack_L4 (m : Bd) (x1 : Int) (k : Option (Int)) : Nat → Int → Int → Option (Int)
  | 0, _, _ => none
  | n + 1, x2, x3 =>
    ck1 x3 <|
    if 8 ≤ x3 then
      k
    else
      ckA x2 8 <|
      ck1 (m 23 x2) <|
      if (m 23 x2) < 0 then
        some (0)
      else
        ckA (m 23 x2) 3400 <|
        bn (f_X6_headOf (m 9 (m 23 x2))) fun q30_7 =>
        ck1 q30_7 <|
        if q30_7 = 7 then
          bn (f_X6_partOf (m 9 (m 23 x2)) 0) fun q52_10 =>
          ck1 q52_10 <|
          ck1 x1 <|
          if q52_10 ≠ x1 then
            f_X6_comesBack_L4 m x1 k n q52_10 (x3 + 1)
          else
            some (1)
        else
          some (0)
def f_X6_comesBack (N : Nat) (m : Bd) (x1 : Int) : Option (Int) :=
  f_X6_comesBack_L4 m x1 (
      some (0)) N x1 0
def f_X6_readsAll_L22  (k : Bd → Option (Int × Bd)) : Nat → Int → Bd → Option (Int × Bd)
  | 0, _, _ => none
  | n + 1, x1, m1 =>
    ck1 x1 <|
    if 8 ≤ x1 then
      k m1
    else
      ckA x1 8 <|
      f_X6_readsAll_L22 k n (x1 + 1) (bS m1 23 (aS (m1 23) x1 (-1)))
def f_X6_readsAll_L45 (N : Nat) (k : Bd → Option (Int × Bd)) : Nat → Bd → Option (Int × Bd)
  | 0, _ => none
  | n + 1, m1 =>
    jn (
        bn (f_X6_byteAt m1 (m1 22 0)) fun q68_5 =>
        bn (f_X6_in q68_5 97 104) fun q77_6 =>
        ck1 q77_6 <|
        if q77_6 = 0 then
          some (m1 22 0, m1)
        else
          ckA (q68_5 - 97) 8 <|
          ck1 (m1 23 (q68_5 - 97)) <|
          if (m1 23 (q68_5 - 97)) < 0 then
            bn (f_X6_skips N (bS (bs0 m1 22 ((m1 22 0) + 1)) 24 (aS (m1 24) (q68_5 - 97) (m1 22 0)))) fun q124_12 =>
            bn (f_X6_byteAt q124_12 (q124_12 22 0)) fun q132_13 =>
            ck1 q132_13 <|
            if q132_13 = 61 then
              bn (f_X6_readsTerm N (bs0 q124_12 22 ((q124_12 22 0) + 1))) fun q156_16 =>
              ck1 q156_16.1 <|
              if 0 ≤ q156_16.1 then
                bn (f_X6_skips N (bs0 (bS q156_16.2 23 (aS (q156_16.2 23) (q68_5 - 97) q156_16.1)) 33 ((q156_16.2 33 0) + 1))) fun q190_19 =>
                f_X6_readsAll_L45 N k n q190_19
              else
                some (q156_16.2 22 0, q156_16.2)
            else
              some (q124_12 22 0, q124_12)
          else
            some (m1 22 0, m1)) fun j63 =>
    ck1 (m1 22 0) <|
    ck1 (m1 8 0) <|
    if (m1 22 0) < (m1 8 0) then
      j63
    else
      ck1 (m1 33 0) <|
      if (m1 33 0) ≠ 0 then
        k m1
      else
        j63
def f_X6_readsAll_L198 (m1 : Bd) (k : Option (Int × Bd)) : Nat → Int → Option (Int × Bd)
  | 0, _ => none
  | n + 1, x1 =>
    ck1 x1 <|
    ck1 (m1 26 0) <|
    if (m1 26 0) ≤ x1 then
      k
    else
      ckA x1 130 <|
      ckA (m1 25 x1) 120 <|
      ckA ((m1 7 (m1 25 x1)) - 97) 8 <|
      ck1 (m1 23 ((m1 7 (m1 25 x1)) - 97)) <|
      if 0 ≤ (m1 23 ((m1 7 (m1 25 x1)) - 97)) then
        f_X6_readsAll_L198 m1 k n (x1 + 1)
      else
        ck1 (m1 0 ((m1 7 (m1 25 x1)) - 97)) <|
        if (m1 0 ((m1 7 (m1 25 x1)) - 97)) ≠ 0 then
          f_X6_readsAll_L198 m1 k n (x1 + 1)
        else
          some (m1 25 x1, m1)
def f_X6_readsAll_L256 (N : Nat) (m1 : Bd) (k : Int → Option (Int × Bd)) : Nat → Int → Int → Option (Int × Bd)
  | 0, _, _ => none
  | n + 1, x1, x2 =>
    ck1 x2 <|
    if 8 ≤ x2 then
      k x1
    else
      ckA x2 8 <|
      ck1 (m1 23 x2) <|
      if (m1 23 x2) < 0 then
        f_X6_readsAll_L256 N m1 k n x1 (x2 + 1)
      else
        bn (f_X6_comesBack N m1 x2) fun q273_40 =>
        ck1 q273_40 <|
        if q273_40 = 0 then
          f_X6_readsAll_L256 N m1 k n x1 (x2 + 1)
        else
          jn (
              f_X6_readsAll_L256 N m1 k n (m1 24 x2) (x2 + 1)) fun j294 =>
          ck1 x1 <|
          if x1 = (-1) then
            j294
          else
            ck1 (m1 24 x2) <|
            if x1 ≤ (m1 24 x2) then
              f_X6_readsAll_L256 N m1 k n x1 (x2 + 1)
            else
              j294
def f_X6_readsAll (N : Nat) (m : Bd) : Option (Int × Bd) :=
  f_X6_readsAll_L22  (fun (m_22 : Bd) =>
      bn (f_X6_skips N m_22) fun q42_4 =>
      f_X6_readsAll_L45 N (fun (m_45 : Bd) =>
          f_X6_readsAll_L198 m_45 (
              f_X6_readsAll_L256 N m_45 (fun (x1_256 : Int) =>
                  some (x1_256, m_45)) N (-1) 0) N 0) N q42_4) N 0 (bs0 (bs0 (bs0 (bs0 m 10 0) 22 0) 26 0) 33 0)
def f_X6_loads_L7 (x1 : Int) (x2 : Int) (k : Bd → Option (Int × Bd)) : Nat → Int → Bd → Option (Int × Bd)
  | 0, _, _ => none
  | n + 1, x3, m1 =>
    ckA x1 8 <|
    ck1 x3 <|
    ck1 (m1 0 x1) <|
    if (m1 0 x1) ≤ x3 then
      k m1
    else
      ckA ((40 * x1) + x3) 320 <|
      bn (f_X6_headOf (m1 1 ((40 * x1) + x3))) fun q33_6 =>
      bn (f_X6_partOf (m1 1 ((40 * x1) + x3)) 0) fun q40_7 =>
      bn (f_X6_partOf (m1 1 ((40 * x1) + x3)) 1) fun q48_8 =>
      bn (f_X6_adds m1 q33_6 (x2 + q40_7) (x2 + q48_8)) fun q52_9 =>
      f_X6_loads_L7 x1 x2 k n (x3 + 1) q52_9.2
def f_X6_loads (N : Nat) (m : Bd) (x1 : Int) : Option (Int × Bd) :=
  f_X6_loads_L7 x1 (m 10 0) (fun (m_7 : Bd) =>
      some (m 10 0, m_7)) N 0 m
def f_X6_parts (x0 : Int) : Option (Int) :=
  ck1 x0 <|
  if x0 ≠ 4 then
    if x0 = 5 then
      some (2)
    else
      if x0 ≠ 6 then
        some (0)
      else
        some (2)
  else
    some (1)
def f_X6_meant_L2 (m : Bd) (k : Int → Option (Int)) : Nat → Int → Option (Int)
  | 0, _ => none
  | n + 1, x2 =>
    ckA x2 3400 <|
    bn (f_X6_headOf (m 9 x2)) fun q8_2 =>
    ck1 q8_2 <|
    if q8_2 ≠ 7 then
      k x2
    else
      bn (f_X6_partOf (m 9 x2) 0) fun q27_5 =>
      ckA q27_5 8 <|
      f_X6_meant_L2 m k n (m 23 q27_5)
def f_X6_meant (N : Nat) (m : Bd) (x1 : Int) : Option (Int) :=
  f_X6_meant_L2 m (fun (x2_2 : Int) =>
      some (x2_2)) N x1
def f_X6_reaches_L2 (x1 : Int) (k : Bd → Option (Int × Bd)) : Nat → Int → Bd → Option (Int × Bd)
  | 0, _, _ => none
  | n + 1, x2, m1 =>
    ck1 x2 <|
    ck1 (m1 10 0) <|
    if (m1 10 0) ≤ x2 then
      k m1
    else
      ckA x2 3400 <|
      f_X6_reaches_L2 x1 k n (x2 + 1) (bS m1 12 (aS (m1 12) x2 (-1)))
def f_X6_reaches_L62 (x3 : Int) (x4 : Int) (k : Int → Bd → Option (Int × Bd)) : Nat → Int → Int → Bd → Option (Int × Bd)
  | 0, _, _, _ => none
  | n + 1, x2, x5, m1 =>
    bn (f_X6_headOf x4) fun q66_11 =>
    bn (f_X6_parts q66_11) fun q69_12 =>
    ck1 x5 <|
    ck1 q69_12 <|
    if q69_12 ≤ x5 then
      k x2 m1
    else
      bn (f_X6_partOf x4 x5) fun q79_16 =>
      ckA q79_16 3400 <|
      ck1 (m1 12 q79_16) <|
      if 0 ≤ (m1 12 q79_16) then
        f_X6_reaches_L62 x3 x4 k n x2 (x5 + 1) m1
      else
        ckA x2 3400 <|
        f_X6_reaches_L62 x3 x4 k n (x2 + 1) (x5 + 1) (bS (bS m1 11 (aS (m1 11) x2 q79_16)) 12 (aS (m1 12) q79_16 x2))
def f_X6_reaches_L41 (N : Nat) (k : Int → Bd → Option (Int × Bd)) : Nat → Int → Int → Bd → Option (Int × Bd)
  | 0, _, _, _ => none
  | n + 1, x2, x3, m1 =>
    ck1 x3 <|
    ck1 x2 <|
    if x2 ≤ x3 then
      k x2 m1
    else
      ckA x3 3400 <|
      ckA (m1 11 x3) 3400 <|
      f_X6_reaches_L62 x3 (m1 9 (m1 11 x3)) (fun (x2_62 : Int) (m_62 : Bd) =>
          f_X6_reaches_L41 N k n x2_62 (x3 + 1) m_62) N x2 0 m1
def f_X6_reaches (N : Nat) (m : Bd) (x1 : Int) : Option (Int × Bd) :=
  f_X6_reaches_L2 x1 (fun (m_2 : Bd) =>
      ckA x1 3400 <|
      f_X6_reaches_L41 N (fun (x2_41 : Int) (m_41 : Bd) =>
          some (x2_41, m_41)) N 1 0 (bS (bS m_2 11 (aS (m_2 11) 0 x1)) 12 (aS (m_2 12) x1 0))) N 0 m
def f_X6_classOf (m : Bd) (x1 : Int) (x2 : Int) : Option (Int) :=
  ckA x1 3400 <|
  ckA (m 11 x1) 3400 <|
  bn (f_X6_partOf (m 9 (m 11 x1)) x2) fun q20_3 =>
  ckA q20_3 3400 <|
  ckA (m 12 q20_3) 3400 <|
  some (m 13 (m 12 q20_3))
def f_X6_alikeSoFar (m : Bd) (x1 : Int) (x2 : Int) : Option (Int) :=
  ckA x1 3400 <|
  ckA (m 11 x1) 3400 <|
  bn (f_X6_headOf (m 9 (m 11 x1))) fun q11_3 =>
  bn (f_X6_parts q11_3) fun q14_4 =>
  ckA x2 3400 <|
  ck1 (m 13 x1) <|
  ck1 (m 13 x2) <|
  if (m 13 x1) ≠ (m 13 x2) then
    some (0)
  else
    jn (
        ck1 q14_4 <|
        if q14_4 < 2 then
          some (1)
        else
          bn (f_X6_classOf m x1 1) fun q61_11 =>
          bn (f_X6_classOf m x2 1) fun q67_12 =>
          ck1 q61_11 <|
          ck1 q67_12 <|
          if q61_11 ≠ q67_12 then
            some (0)
          else
            some (1)) fun j53 =>
    ck1 q14_4 <|
    if q14_4 < 1 then
      j53
    else
      bn (f_X6_classOf m x1 0) fun q41_18 =>
      bn (f_X6_classOf m x2 0) fun q47_19 =>
      ck1 q41_18 <|
      ck1 q47_19 <|
      if q41_18 ≠ q47_19 then
        some (0)
      else
        j53
def f_X6_tellsApart_L5 (x1 : Int) (x2 : Int) (x3 : Int) (k : Bd → Option (Int × Bd)) : Nat → Int → Bd → Option (Int × Bd)
  | 0, _, _ => none
  | n + 1, x4, m1 =>
    ck1 x4 <|
    ck1 x1 <|
    if x1 ≤ x4 then
      k m1
    else
      ckA x4 3400 <|
      ckA (m1 11 x4) 3400 <|
      bn (f_X6_headOf (m1 9 (m1 11 x4))) fun q29_6 =>
      f_X6_tellsApart_L5 x1 x2 x3 k n (x4 + 1) (bS m1 13 (aS (m1 13) x4 q29_6))
def f_X6_tellsApart_L54 (m1 : Bd) (x1 : Int) (x2 : Int) (x3 : Int) (x4 : Int) (x5 : Int) (k : Int → Option (Int × Bd)) : Nat → Int → Option (Int × Bd)
  | 0, _ => none
  | n + 1, x6 =>
    ck1 x6 <|
    ck1 x4 <|
    if x4 ≤ x6 then
      k x6
    else
      ckA x6 90 <|
      bn (f_X6_alikeSoFar m1 (m1 15 x6) x5) fun q71_14 =>
      ck1 q71_14 <|
      if q71_14 ≠ 0 then
        k x6
      else
        f_X6_tellsApart_L54 m1 x1 x2 x3 x4 x5 k n (x6 + 1)
def f_X6_tellsApart_L45 (N : Nat) (x1 : Int) (x2 : Int) (x3 : Int) (k : Int → Bd → Option (Int × Bd)) : Nat → Int → Int → Bd → Option (Int × Bd)
  | 0, _, _, _ => none
  | n + 1, x4, x5, m1 =>
    ck1 x5 <|
    ck1 x1 <|
    if x1 ≤ x5 then
      k x4 m1
    else
      f_X6_tellsApart_L54 m1 x1 x2 x3 x4 x5 (fun (x6_54 : Int) =>
          ck1 x6_54 <|
          ck1 x4 <|
          if x6_54 ≠ x4 then
            ckA x5 3400 <|
            f_X6_tellsApart_L45 N x1 x2 x3 k n x4 (x5 + 1) (bS m1 14 (aS (m1 14) x5 x6_54))
          else
            ck1 x2 <|
            if x4 ≠ x2 then
              ckA x4 90 <|
              ckA x5 3400 <|
              f_X6_tellsApart_L45 N x1 x2 x3 k n (x4 + 1) (x5 + 1) (bS (bS m1 14 (aS (m1 14) x5 x6_54)) 15 (aS (m1 15) x4 x5))
            else
              some (x2 + 1, m1)) N 0
def f_X6_tellsApart_L130 (x1 : Int) (x2 : Int) (x3 : Int) (x4 : Int) (k : Bd → Option (Int × Bd)) : Nat → Int → Bd → Option (Int × Bd)
  | 0, _, _ => none
  | n + 1, x5, m1 =>
    ck1 x5 <|
    ck1 x1 <|
    if x1 ≤ x5 then
      k m1
    else
      ckA x5 3400 <|
      f_X6_tellsApart_L130 x1 x2 x3 x4 k n (x5 + 1) (bS m1 13 (aS (m1 13) x5 (m1 14 x5)))
def f_X6_tellsApart_L39 (N : Nat) (x1 : Int) (x2 : Int) : Nat → Int → Bd → Option (Int × Bd)
  | 0, _, _ => none
  | n + 1, x3, m1 =>
    f_X6_tellsApart_L45 N x1 x2 x3 (fun (x4_45 : Int) (m_45 : Bd) =>
        f_X6_tellsApart_L130 x1 x2 x3 x4_45 (fun (m_130 : Bd) =>
            ck1 x4_45 <|
            ck1 x3 <|
            if x4_45 ≠ x3 then
              f_X6_tellsApart_L39 N x1 x2 n x4_45 m_130
            else
              some (x4_45, m_130)) N 0 m_45) N 0 0 m1
def f_X6_tellsApart (N : Nat) (m : Bd) (x1 : Int) (x2 : Int) : Option (Int × Bd) :=
  f_X6_tellsApart_L5 x1 x2 0 (fun (m_5 : Bd) =>
      f_X6_tellsApart_L39 N x1 x2 N 0 m_5) N 0 m
def f_X6_makes_L19  (k : Bd → Option (Int × Bd)) : Nat → Int → Bd → Option (Int × Bd)
  | 0, _, _ => none
  | n + 1, x3, m1 =>
    ck1 x3 <|
    ck1 (m1 17 0) <|
    if (m1 17 0) ≤ x3 then
      k m1
    else
      if 40 < (m1 17 0) then
        k m1
      else
        ckA x3 90 <|
        ckA (m1 15 x3) 3400 <|
        ckA (m1 11 (m1 15 x3)) 3400 <|
        bn (f_X6_headOf (m1 9 (m1 11 (m1 15 x3)))) fun q52_10 =>
        bn (f_X6_parts q52_10) fun q59_11 =>
        jn (fun (s3_91 : Int) =>
            jn (fun (s4_112 : Int) =>
                bn (f_X6_node q52_10 s3_91 s4_112) fun q112_12 =>
                ckA x3 41 <|
                f_X6_makes_L19 k n (x3 + 1) (bS m1 16 (aS (m1 16) x3 q112_12))) fun j112 =>
            ck1 q59_11 <|
            if q59_11 ≤ 1 then
              j112 0
            else
              bn (f_X6_classOf m1 (m1 15 x3) 1) fun q105_16 =>
              j112 q105_16) fun j91 =>
        ck1 q59_11 <|
        if q59_11 ≤ 0 then
          j91 0
        else
          bn (f_X6_classOf m1 (m1 15 x3) 0) fun q84_19 =>
          j91 q84_19
def f_X6_makes (N : Nat) (m : Bd) (x1 : Int) : Option (Int × Bd) :=
  bn (f_X6_reaches N m x1) fun q2_1 =>
  bn (f_X6_tellsApart N q2_1.2 q2_1.1 40) fun q11_2 =>
  f_X6_makes_L19  (fun (m_19 : Bd) =>
      some (m_19 17 0, m_19)) N 0 (bs0 q11_2.2 17 q11_2.1)
def f_X6_keeps_L81  (k : Bd → Option (Bd)) : Nat → Int → Bd → Option (Bd)
  | 0, _, _ => none
  | n + 1, x1, m1 =>
    ck1 x1 <|
    if 320 ≤ x1 then
      k m1
    else
      ckA x1 320 <|
      ckA ((320 * (m1 4 0)) + x1) 2560 <|
      f_X6_keeps_L81 k n (x1 + 1) (bS m1 2 (aS (m1 2) ((320 * (m1 4 0)) + x1) (m1 1 x1)))
def f_X6_keeps_L117  (k : Bd → Option (Bd)) : Nat → Int → Bd → Option (Bd)
  | 0, _, _ => none
  | n + 1, x1, m1 =>
    ck1 x1 <|
    if 8 ≤ x1 then
      k m1
    else
      ckA x1 8 <|
      ckA ((8 * (m1 4 0)) + x1) 64 <|
      f_X6_keeps_L117 k n (x1 + 1) (bS m1 3 (aS (m1 3) ((8 * (m1 4 0)) + x1) (m1 0 x1)))
def f_X6_keeps_L11  (k : Bd → Option (Bd)) : Nat → Int → Bd → Option (Bd)
  | 0, _, _ => none
  | n + 1, x1, m1 =>
    ck1 x1 <|
    if 2240 ≤ x1 then
      k m1
    else
      ckA (x1 + 320) 2560 <|
      ckA x1 2560 <|
      f_X6_keeps_L11 k n (x1 + 1) (bS m1 2 (aS (m1 2) x1 (m1 2 (x1 + 320))))
def f_X6_keeps_L42  (k : Bd → Option (Bd)) : Nat → Int → Bd → Option (Bd)
  | 0, _, _ => none
  | n + 1, x1, m1 =>
    ck1 x1 <|
    if 56 ≤ x1 then
      k m1
    else
      ckA (x1 + 8) 64 <|
      ckA x1 64 <|
      f_X6_keeps_L42 k n (x1 + 1) (bS m1 3 (aS (m1 3) x1 (m1 3 (x1 + 8))))
def f_X6_keeps (N : Nat) (m : Bd) : Option (Bd) :=
  jn (fun (m_79 : Bd) =>
      f_X6_keeps_L81  (fun (m_81 : Bd) =>
          f_X6_keeps_L117  (fun (m_117 : Bd) =>
              some ((bs0 m_117 4 ((m_117 4 0) + 1)))) N 0 m_81) N 0 m_79) fun j79 =>
  ck1 (m 4 0) <|
  if (m 4 0) ≠ 8 then
    j79 m
  else
    f_X6_keeps_L11  (fun (m_11 : Bd) =>
        f_X6_keeps_L42  (fun (m_42 : Bd) =>
            j79 (bs0 m_42 4 ((m_42 4 0) - 1))) N 0 m_11) N 0 m
def f_X6_read_L19 (m1 : Bd) (k : Int → Option (Int × Bd)) : Nat → Int → Int → Option (Int × Bd)
  | 0, _, _ => none
  | n + 1, x2, x3 =>
    ck1 x3 <|
    if 8 ≤ x3 then
      k x2
    else
      ckA x3 8 <|
      ck1 (m1 23 x3) <|
      if (m1 23 x3) < 0 then
        f_X6_read_L19 m1 k n (i_or x2 0) (x3 + 1)
      else
        f_X6_read_L19 m1 k n (i_or x2 (i_shl 1 x3)) (x3 + 1)
def f_X6_read_L58 (N : Nat) (x2 : Int) (x3 : Int) (k : Bd → Option (Int × Bd)) : Nat → Int → Bd → Option (Int × Bd)
  | 0, _, _ => none
  | n + 1, x4, m1 =>
    ck1 x4 <|
    if 8 ≤ x4 then
      k m1
    else
      ckA x4 8 <|
      ck1 (m1 23 x4) <|
      if 0 ≤ (m1 23 x4) then
        f_X6_read_L58 N x2 x3 k n (x4 + 1) (bS m1 23 (aS (m1 23) x4 (m1 23 x4)))
      else
        ck1 (m1 0 x4) <|
        if (m1 0 x4) ≤ 0 then
          f_X6_read_L58 N x2 x3 k n (x4 + 1) (bS m1 23 (aS (m1 23) x4 (m1 23 x4)))
        else
          bn (f_X6_loads N m1 x4) fun q94_16 =>
          f_X6_read_L58 N x2 x3 k n (x4 + 1) (bS q94_16.2 23 (aS (q94_16.2 23) x4 q94_16.1))
def f_X6_read_L117 (N : Nat) (x2 : Int) (x3 : Int) (k : Bd → Option (Int × Bd)) : Nat → Int → Bd → Option (Int × Bd)
  | 0, _, _ => none
  | n + 1, x4, m1 =>
    ck1 x4 <|
    ck1 x3 <|
    if x3 ≤ x4 then
      k m1
    else
      ckA x4 3400 <|
      bn (f_X6_headOf (m1 9 x4)) fun q130_21 =>
      ck1 q130_21 <|
      if q130_21 = 7 then
        f_X6_read_L117 N x2 x3 k n (x4 + 1) m1
      else
        bn (f_X6_parts q130_21) fun q144_24 =>
        jn (fun (s3_181 : Int) =>
            jn (fun (s4_206 : Int) =>
                bn (f_X6_node q130_21 s3_181 s4_206) fun q206_25 =>
                f_X6_read_L117 N x2 x3 k n (x4 + 1) (bS m1 9 (aS (m1 9) x4 q206_25))) fun j206 =>
            ck1 q144_24 <|
            if q144_24 ≤ 1 then
              j206 0
            else
              bn (f_X6_partOf (m1 9 x4) 1) fun q196_28 =>
              bn (f_X6_meant N m1 q196_28) fun q199_29 =>
              j206 q199_29) fun j181 =>
        ck1 q144_24 <|
        if q144_24 ≤ 0 then
          j181 0
        else
          bn (f_X6_partOf (m1 9 x4) 0) fun q171_32 =>
          bn (f_X6_meant N m1 q171_32) fun q174_33 =>
          j181 q174_33
def f_X6_read_L266 (x2 : Int) (x4 : Int) (k : Bd → Option (Int × Bd)) : Nat → Int → Bd → Option (Int × Bd)
  | 0, _, _ => none
  | n + 1, x5, m1 =>
    ck1 x5 <|
    ck1 (m1 17 0) <|
    if (m1 17 0) ≤ x5 then
      k m1
    else
      ckA x5 41 <|
      ckA ((40 * x4) + x5) 320 <|
      f_X6_read_L266 x2 x4 k n (x5 + 1) (bS m1 31 (aS (m1 31) ((40 * x4) + x5) (m1 16 x5)))
def f_X6_read_L219 (N : Nat) (x2 : Int) (k : Bd → Option (Int × Bd)) : Nat → Int → Bd → Option (Int × Bd)
  | 0, _, _ => none
  | n + 1, x4, m1 =>
    ck1 x4 <|
    if 8 ≤ x4 then
      k m1
    else
      ck1 (i_and (i_shr x2 x4) 1) <|
      if (i_and (i_shr x2 x4) 1) ≠ 1 then
        f_X6_read_L219 N x2 k n (x4 + 1) m1
      else
        ckA x4 8 <|
        bn (f_X6_meant N m1 (m1 23 x4)) fun q245_39 =>
        bn (f_X6_makes N m1 q245_39) fun q248_40 =>
        ck1 q248_40.1 <|
        if q248_40.1 ≤ 40 then
          f_X6_read_L266 x2 x4 (fun (m_266 : Bd) =>
              f_X6_read_L219 N x2 k n (x4 + 1) (bS m_266 32 (aS (m_266 32) x4 (m_266 17 0)))) N 0 q248_40.2
        else
          bn (f_X6_refuses q248_40.2 (-4)) fun q259_48 =>
          some (q259_48.1, q259_48.2)
def f_X6_read_L345 (x2 : Int) (x4 : Int) (k : Bd → Option (Int × Bd)) : Nat → Int → Bd → Option (Int × Bd)
  | 0, _, _ => none
  | n + 1, x5, m1 =>
    ckA x4 8 <|
    ck1 x5 <|
    ck1 (m1 32 x4) <|
    if (m1 32 x4) ≤ x5 then
      k m1
    else
      ckA ((40 * x4) + x5) 320 <|
      f_X6_read_L345 x2 x4 k n (x5 + 1) (bS m1 1 (aS (m1 1) ((40 * x4) + x5) (m1 31 ((40 * x4) + x5))))
def f_X6_read_L325 (N : Nat) (x2 : Int) (k : Bd → Option (Int × Bd)) : Nat → Int → Bd → Option (Int × Bd)
  | 0, _, _ => none
  | n + 1, x4, m1 =>
    ck1 x4 <|
    if 8 ≤ x4 then
      k m1
    else
      ck1 (i_and (i_shr x2 x4) 1) <|
      if (i_and (i_shr x2 x4) 1) ≠ 1 then
        f_X6_read_L325 N x2 k n (x4 + 1) m1
      else
        f_X6_read_L345 x2 x4 (fun (m_345 : Bd) =>
            ckA x4 8 <|
            f_X6_read_L325 N x2 k n (x4 + 1) (bS m_345 0 (aS (m_345 0) x4 (m_345 32 x4)))) N 0 m1
def f_X6_read (N : Nat) (m : Bd) : Option (Int × Bd) :=
  bn (f_X6_readsAll N m) fun q1_1 =>
  ck1 q1_1.1 <|
  if q1_1.1 = (-1) then
    f_X6_read_L19 q1_1.2 (fun (x2_19 : Int) =>
        f_X6_read_L58 N x2_19 (q1_1.2 10 0) (fun (m_58 : Bd) =>
            f_X6_read_L117 N x2_19 (q1_1.2 10 0) (fun (m_117 : Bd) =>
                f_X6_read_L219 N x2_19 (fun (m_219 : Bd) =>
                    bn (f_X6_keeps N m_219) fun q319_49 =>
                    f_X6_read_L325 N x2_19 (fun (m_325 : Bd) =>
                        some (m_325 33 0, m_325)) N 0 q319_49) N 0 m_117) N 0 m_58) N 0 q1_1.2) N 0 0
  else
    some ((-10) - q1_1.1, q1_1.2)
def f_X6_order (m : Bd) (x1 : Int) : Option (Int × Bd) :=
  bn (f_X6_in x1 0 4) fun q3_1 =>
  ck1 q3_1 <|
  if q3_1 ≠ 0 then
    some (m 6 0, (bs0 m 6 x1))
  else
    bn (f_X6_refuses m (-2)) fun q12_4 =>
    some (q12_4.1, q12_4.2)
def f_X6_isName (x0 : Int) : Option (Int) :=
  bn (f_X6_in x0 0 7) fun q4_1 =>
  ckB q4_1 <|
  some (q4_1)
def f_X6_has (m : Bd) (x1 : Int) : Option (Int) :=
  bn (f_X6_isName x1) fun q1_1 =>
  ck1 q1_1 <|
  if q1_1 = 0 then
    some (0)
  else
    ckA x1 8 <|
    ck1 (m 0 x1) <|
    if (m 0 x1) ≤ 0 then
      some (0)
    else
      some (1)
def f_X6_both (N : Nat) (m : Bd) (x1 : Int) (x2 : Int) : Option (Int × Bd) :=
  bn (f_X6_loads N (bs0 m 10 0) x1) fun q7_1 =>
  bn (f_X6_loads N q7_1.2 x2) fun q13_2 =>
  some (q13_2.1, q13_2.2)
def f_X6_goes (m : Bd) (x1 : Int) (x2 : Int) : Option (Int) :=
  ck1 (m 6 0) <|
  if (m 6 0) ≠ 3 then
    ck1 x1 <|
    if x1 = 0 then
      some (1)
    else
      ck1 x2 <|
      if x2 ≠ 3 then
        jn (
            jn (
                if x1 ≠ 2 then
                  some (0)
                else
                  if x2 ≠ 1 then
                    some (0)
                  else
                    if (m 6 0) ≠ 4 then
                      some (0)
                    else
                      some (1)) fun j82 =>
            if x1 ≠ 1 then
              j82
            else
              if x2 ≠ 2 then
                j82
              else
                if (m 6 0) ≠ 1 then
                  some (1)
                else
                  j82) fun j64 =>
        if x1 ≠ x2 then
          j64
        else
          if x1 = 3 then
            j64
          else
            bn (f_X6_parts x1) fun q52_15 =>
            ck1 q52_15 <|
            jn (fun (s_63 : Int) =>
                some (s_63)) fun j63 =>
            j63 (if q52_15 ≤ 0 then 1 else 2)
      else
        some (1)
  else
    ck1 x1 <|
    ck1 x2 <|
    if x1 = x2 then
      bn (f_X6_parts x1) fun q18_21 =>
      ck1 q18_21 <|
      if q18_21 ≤ 0 then
        some (1)
      else
        some (2)
    else
      some (0)
def f_X6_clash_L8 (x1 : Int) (x2 : Int) (x3 : Int) (k : Bd → Option (Int × Bd)) : Nat → Int → Bd → Option (Int × Bd)
  | 0, _, _ => none
  | n + 1, x4, m1 =>
    ck1 x4 <|
    ck1 (x3 * x3) <|
    if (x3 * x3) ≤ x4 then
      k m1
    else
      ckA x4 6400 <|
      f_X6_clash_L8 x1 x2 x3 k n (x4 + 1) (bS m1 18 (aS (m1 18) x4 0))
def f_X6_clash_L132 (x3 : Int) (x5 : Int) (x6 : Int) (x7 : Int) (x8 : Int) (k : Int → Bd → Option (Int × Bd)) : Nat → Int → Int → Bd → Option (Int × Bd)
  | 0, _, _, _ => none
  | n + 1, x4, x9, m1 =>
    bn (f_X6_headOf x6) fun q136_20 =>
    bn (f_X6_parts q136_20) fun q139_21 =>
    ck1 x9 <|
    ck1 q139_21 <|
    if q139_21 ≤ x9 then
      k x4 m1
    else
      ck1 x8 <|
      if x8 ≠ 2 then
        k x4 m1
      else
        bn (f_X6_headOf x6) fun q153_27 =>
        jn (fun (s0_187 : Int) =>
            jn (fun (s0_231 : Int) =>
                ckA s0_231 6400 <|
                ck1 (m1 18 s0_231) <|
                if (m1 18 s0_231) ≠ 0 then
                  f_X6_clash_L132 x3 x5 x6 x7 x8 k n x4 (x9 + 1) m1
                else
                  ckA x4 6400 <|
                  f_X6_clash_L132 x3 x5 x6 x7 x8 k n (x4 + 1) (x9 + 1) (bS (bS (bS (bS m1 18 (aS (m1 18) s0_231 1)) 19 (aS (m1 19) x4 s0_231)) 20 (aS (m1 20) x4 x5)) 21 (aS (m1 21) x4 x9))) fun j231 =>
            ck1 s0_187 <|
            if s0_187 = 0 then
              bn (f_X6_partOf x6 x9) fun q219_34 =>
              bn (f_X6_partOf x7 x9) fun q227_35 =>
              j231 ((x3 * q219_34) + q227_35)
            else
              bn (f_X6_partOf x7 x9) fun q199_36 =>
              bn (f_X6_partOf x6 x9) fun q207_37 =>
              j231 ((x3 * q199_36) + q207_37)) fun j187 =>
        jn (
            j187 0) fun j186 =>
        ck1 q153_27 <|
        if q153_27 ≠ 6 then
          j186
        else
          if x9 ≠ 0 then
            j186
          else
            ck1 (m1 6 0) <|
            if (m1 6 0) = 2 then
              j186
            else
              if (m1 6 0) = 4 then
                j186
              else
                j187 1
def f_X6_clash_L66 (N : Nat) (x3 : Int) (k : Bd → Option (Int × Bd)) : Nat → Int → Int → Bd → Option (Int × Bd)
  | 0, _, _, _ => none
  | n + 1, x4, x5, m1 =>
    ck1 x5 <|
    ck1 x4 <|
    if x4 ≤ x5 then
      k m1
    else
      ckA x5 6400 <|
      ck1 (m1 19 x5) <|
      ck1 x3 <|
      ckZ x3 <|
      ckA (Int.tdiv (m1 19 x5) x3) 3400 <|
      ckA (Int.tmod (m1 19 x5) x3) 3400 <|
      bn (f_X6_headOf (m1 9 (Int.tdiv (m1 19 x5) x3))) fun q108_15 =>
      bn (f_X6_headOf (m1 9 (Int.tmod (m1 19 x5) x3))) fun q113_16 =>
      bn (f_X6_goes m1 q108_15 q113_16) fun q116_17 =>
      ck1 q116_17 <|
      if q116_17 ≠ 0 then
        f_X6_clash_L132 x3 x5 (m1 9 (Int.tdiv (m1 19 x5) x3)) (m1 9 (Int.tmod (m1 19 x5) x3)) q116_17 (fun (x4_132 : Int) (m_132 : Bd) =>
            f_X6_clash_L66 N x3 k n x4_132 (x5 + 1) m_132) N x4 0 m1
      else
        some (x5, m1)
def f_X6_clash (N : Nat) (m : Bd) (x1 : Int) (x2 : Int) : Option (Int × Bd) :=
  f_X6_clash_L8 x1 x2 (m 10 0) (fun (m_8 : Bd) =>
      ckA ((aS (m_8 19) 0 (((m 10 0) * x1) + x2)) 0) 6400 <|
      f_X6_clash_L66 N (m 10 0) (fun (m_66 : Bd) =>
          some ((-1), m_66)) N 1 0 (bS (bS (bS m_8 18 (aS (m_8 18) ((aS (m_8 19) 0 (((m 10 0) * x1) + x2)) 0) 1)) 19 (aS (m_8 19) 0 (((m 10 0) * x1) + x2))) 20 (aS (m_8 20) 0 (-1)))) N 0 m
def f_X6_under (N : Nat) (m : Bd) (x1 : Int) (x2 : Int) : Option (Int × Bd) :=
  bn (f_X6_has m x1) fun q2_1 =>
  jn (
      bn (f_X6_refuses m (-2)) fun q19_2 =>
      some (q19_2.1, q19_2.2)) fun j16 =>
  ck1 q2_1 <|
  if q2_1 = 0 then
    j16
  else
    bn (f_X6_has m x2) fun q10_5 =>
    ck1 q10_5 <|
    if q10_5 ≠ 0 then
      bn (f_X6_both N m x1 x2) fun q26_8 =>
      bn (f_X6_clash N q26_8.2 0 q26_8.1) fun q33_9 =>
      ck1 q33_9.1 <|
      jn (fun (s_45 : Int) =>
          some (s_45, q33_9.2)) fun j45 =>
      j45 (if q33_9.1 ≠ (-1) then 0 else 1)
    else
      j16
def f_X6_alike_L47 (m1 : Bd) (x1 : Int) (x2 : Int) (k : Int → Option (Int × Bd)) : Nat → Int → Int → Option (Int × Bd)
  | 0, _, _ => none
  | n + 1, x3, x4 =>
    ckA x1 8 <|
    ck1 x4 <|
    ck1 (m1 0 x1) <|
    if (m1 0 x1) ≤ x4 then
      k x3
    else
      ck1 x3 <|
      if x3 = 0 then
        k x3
      else
        ckA ((40 * x1) + x4) 320 <|
        ckA ((40 * x2) + x4) 320 <|
        ck1 (m1 1 ((40 * x1) + x4)) <|
        ck1 (m1 1 ((40 * x2) + x4)) <|
        jn (fun (s_94 : Int) =>
            f_X6_alike_L47 m1 x1 x2 k n s_94 (x4 + 1)) fun j94 =>
        j94 (if (m1 1 ((40 * x1) + x4)) ≠ (m1 1 ((40 * x2) + x4)) then 0 else 1)
def f_X6_alike (N : Nat) (m : Bd) (x1 : Int) (x2 : Int) : Option (Int × Bd) :=
  bn (f_X6_has m x1) fun q2_1 =>
  jn (
      bn (f_X6_refuses m (-2)) fun q19_2 =>
      some (q19_2.1, q19_2.2)) fun j16 =>
  ck1 q2_1 <|
  if q2_1 = 0 then
    j16
  else
    bn (f_X6_has m x2) fun q10_5 =>
    ck1 q10_5 <|
    if q10_5 ≠ 0 then
      ckA x1 8 <|
      ckA x2 8 <|
      jn (fun (s0_43 : Int) =>
          f_X6_alike_L47 m x1 x2 (fun (x3_47 : Int) =>
              ck1 x3_47 <|
              jn (fun (s_110 : Int) =>
                  some (s_110, m)) fun j110 =>
              j110 (if x3_47 = 0 then 0 else 1)) N s0_43 0) fun j43 =>
      ck1 (m 0 x1) <|
      ck1 (m 0 x2) <|
      if (m 0 x1) ≠ (m 0 x2) then
        j43 0
      else
        j43 1
    else
      j16
def f_X6_apart_L68 (m1 : Bd) (x3 : Int) (x5 : Int) (k : Int → Option (Int × Bd)) : Nat → Int → Int → Option (Int × Bd)
  | 0, _, _ => none
  | n + 1, x6, x7 =>
    ckA x7 6400 <|
    ck1 (m1 20 x7) <|
    if (m1 20 x7) < 0 then
      k x6
    else
      f_X6_apart_L68 m1 x3 x5 k n (x6 + 1) (m1 20 x7)
def f_X6_apart_L120 (m1 : Bd) (x3 : Int) (k : Int → Option (Int × Bd)) : Nat → Int → Int → Option (Int × Bd)
  | 0, _, _ => none
  | n + 1, x7, x8 =>
    ck1 x8 <|
    ck1 x3 <|
    if x8 ≤ x3 then
      k x7
    else
      ckA x7 6400 <|
      f_X6_apart_L120 m1 x3 k n (m1 20 x7) (x8 + (-1))
def f_X6_apart (N : Nat) (m : Bd) (x1 : Int) (x2 : Int) (x3 : Int) : Option (Int × Bd) :=
  bn (f_X6_has m x1) fun q2_1 =>
  jn (
      bn (f_X6_refuses m (-2)) fun q24_2 =>
      some (q24_2.1 - 8, q24_2.2)) fun j21 =>
  ck1 q2_1 <|
  if q2_1 = 0 then
    j21
  else
    bn (f_X6_has m x2) fun q10_5 =>
    ck1 q10_5 <|
    if q10_5 = 0 then
      j21
    else
      ck1 x3 <|
      if (-1) ≤ x3 then
        bn (f_X6_both N m x1 x2) fun q38_10 =>
        bn (f_X6_clash N q38_10.2 0 q38_10.1) fun q47_11 =>
        ck1 q47_11.1 <|
        if q47_11.1 ≠ (-1) then
          f_X6_apart_L68 q47_11.2 x3 q47_11.1 (fun (x6_68 : Int) =>
              if x3 ≠ (-1) then
                ck1 x6_68 <|
                if x3 < x6_68 then
                  f_X6_apart_L120 q47_11.2 x3 (fun (x7_120 : Int) =>
                      ckA x7_120 6400 <|
                      some (q47_11.2 21 x7_120, q47_11.2)) N q47_11.1 (x6_68 - 1)
                else
                  some ((-5), q47_11.2)
              else
                some (x6_68, q47_11.2)) N 0 q47_11.1
        else
          some ((-6), q47_11.2)
      else
        j21
def f_X6_near_L50 (x3 : Int) (x4 : Int) (x5 : Int) (k : Bd → Option (Int × Bd)) : Nat → Int → Bd → Option (Int × Bd)
  | 0, _, _ => none
  | n + 1, x6, m1 =>
    ck1 x6 <|
    ck1 (x5 * x5) <|
    if (x5 * x5) ≤ x6 then
      k m1
    else
      ckA x6 6400 <|
      f_X6_near_L50 x3 x4 x5 k n (x6 + 1) (bS m1 18 (aS (m1 18) x6 0))
def f_X6_near_L162 (x3 : Int) (x5 : Int) (x7 : Int) (x8 : Int) (x9 : Int) (k : Int → Bd → Option (Int × Bd)) : Nat → Int → Int → Bd → Option (Int × Bd)
  | 0, _, _, _ => none
  | n + 1, x6, x10, m1 =>
    bn (f_X6_headOf x8) fun q166_31 =>
    bn (f_X6_parts q166_31) fun q169_32 =>
    ck1 x10 <|
    ck1 q169_32 <|
    if q169_32 ≤ x10 then
      k x6 m1
    else
      ckA x7 6400 <|
      ck1 (m1 21 x7) <|
      ck1 x3 <|
      if x3 ≤ (m1 21 x7) then
        k x6 m1
      else
        bn (f_X6_partOf x8 x10) fun q192_40 =>
        bn (f_X6_partOf x9 x10) fun q200_41 =>
        ckA ((x5 * q192_40) + q200_41) 6400 <|
        ck1 (m1 18 ((x5 * q192_40) + q200_41)) <|
        if (m1 18 ((x5 * q192_40) + q200_41)) ≠ 0 then
          f_X6_near_L162 x3 x5 x7 x8 x9 k n x6 (x10 + 1) m1
        else
          ckA x6 6400 <|
          f_X6_near_L162 x3 x5 x7 x8 x9 k n (x6 + 1) (x10 + 1) (bS (bS (bS m1 18 (aS (m1 18) ((x5 * q192_40) + q200_41) 1)) 19 (aS (m1 19) x6 ((x5 * q192_40) + q200_41))) 21 (aS (m1 21) x6 ((m1 21 x7) + 1)))
def f_X6_near_L103 (N : Nat) (x3 : Int) (x5 : Int) (k : Bd → Option (Int × Bd)) : Nat → Int → Int → Bd → Option (Int × Bd)
  | 0, _, _, _ => none
  | n + 1, x6, x7, m1 =>
    ck1 x7 <|
    ck1 x6 <|
    if x6 ≤ x7 then
      k m1
    else
      ckA x7 6400 <|
      ck1 (m1 19 x7) <|
      ck1 x5 <|
      ckZ x5 <|
      ckA (Int.tdiv (m1 19 x7) x5) 3400 <|
      ckA (Int.tmod (m1 19 x7) x5) 3400 <|
      bn (f_X6_headOf (m1 9 (Int.tdiv (m1 19 x7) x5))) fun q146_26 =>
      bn (f_X6_headOf (m1 9 (Int.tmod (m1 19 x7) x5))) fun q151_27 =>
      ck1 q146_26 <|
      ck1 q151_27 <|
      if q146_26 = q151_27 then
        f_X6_near_L162 x3 x5 x7 (m1 9 (Int.tdiv (m1 19 x7) x5)) (m1 9 (Int.tmod (m1 19 x7) x5)) (fun (x6_162 : Int) (m_162 : Bd) =>
            f_X6_near_L103 N x3 x5 k n x6_162 (x7 + 1) m_162) N x6 0 m1
      else
        some (0, m1)
def f_X6_near (N : Nat) (m : Bd) (x1 : Int) (x2 : Int) (x3 : Int) : Option (Int × Bd) :=
  bn (f_X6_has m x1) fun q2_1 =>
  jn (
      bn (f_X6_refuses m (-2)) fun q29_2 =>
      some (q29_2.1, q29_2.2)) fun j26 =>
  ck1 q2_1 <|
  if q2_1 = 0 then
    j26
  else
    bn (f_X6_has m x2) fun q10_5 =>
    ck1 q10_5 <|
    if q10_5 = 0 then
      j26
    else
      bn (f_X6_in x3 0 60) fun q20_8 =>
      ck1 q20_8 <|
      if q20_8 ≠ 0 then
        bn (f_X6_both N m x1 x2) fun q36_11 =>
        f_X6_near_L50 x3 q36_11.1 (q36_11.2 10 0) (fun (m_50 : Bd) =>
            ckA q36_11.1 6400 <|
            f_X6_near_L103 N x3 (q36_11.2 10 0) (fun (m_103 : Bd) =>
                some (1, m_103)) N 1 0 (bS (bS (bS m_50 18 (aS (m_50 18) q36_11.1 1)) 19 (aS (m_50 19) 0 q36_11.1)) 21 (aS (m_50 21) 0 0))) N 0 q36_11.2
      else
        j26
def f_X6_bothApart_L10 (x3 : Int) (k : Bd → Option (Int × Bd)) : Nat → Int → Bd → Option (Int × Bd)
  | 0, _, _ => none
  | n + 1, x4, m1 =>
    ck1 x4 <|
    ck1 (m1 10 0) <|
    if (m1 10 0) ≤ x4 then
      k m1
    else
      ckA x4 3400 <|
      f_X6_bothApart_L10 x3 k n (x4 + 1) (bS (bS m1 11 (aS (m1 11) x4 x4)) 12 (aS (m1 12) x4 x4))
def f_X6_bothApart (N : Nat) (m : Bd) (x1 : Int) (x2 : Int) : Option (Int × Bd) :=
  bn (f_X6_both N m x1 x2) fun q3_1 =>
  f_X6_bothApart_L10 q3_1.1 (fun (m_10 : Bd) =>
      bn (f_X6_tellsApart N m_10 (m_10 10 0) 80) fun q50_6 =>
      some (q3_1.1, q50_6.2)) N 0 q3_1.2
def f_X6_shared_L48 (m1 : Bd) (x3 : Int) (x4 : Int) (x5 : Int) (k : Int → Option (Int × Bd)) : Nat → Int → Int → Option (Int × Bd)
  | 0, _, _ => none
  | n + 1, x6, x7 =>
    ck1 x7 <|
    ck1 (m1 10 0) <|
    if (m1 10 0) ≤ x7 then
      k x6
    else
      ck1 x6 <|
      if x6 ≠ 0 then
        f_X6_shared_L48 m1 x3 x4 x5 k n 1 (x7 + 1)
      else
        ckA x7 3400 <|
        ckA x5 3400 <|
        ck1 (m1 13 x7) <|
        ck1 (m1 13 x5) <|
        if (m1 13 x7) ≠ (m1 13 x5) then
          f_X6_shared_L48 m1 x3 x4 x5 k n 0 (x7 + 1)
        else
          f_X6_shared_L48 m1 x3 x4 x5 k n 1 (x7 + 1)
def f_X6_shared_L36 (N : Nat) (m1 : Bd) (x3 : Int) (k : Int → Option (Int × Bd)) : Nat → Int → Int → Option (Int × Bd)
  | 0, _, _ => none
  | n + 1, x4, x5 =>
    ck1 x5 <|
    ck1 x3 <|
    if x3 ≤ x5 then
      k x4
    else
      f_X6_shared_L48 m1 x3 x4 x5 (fun (x6_48 : Int) =>
          ck1 x6_48 <|
          jn (fun (s_104 : Int) =>
              f_X6_shared_L36 N m1 x3 k n (x4 + s_104) (x5 + 1)) fun j104 =>
          j104 (if x6_48 = 0 then 0 else 1)) N 0 x3
def f_X6_shared (N : Nat) (m : Bd) (x1 : Int) (x2 : Int) : Option (Int × Bd) :=
  bn (f_X6_has m x1) fun q2_1 =>
  jn (
      bn (f_X6_refuses m (-2)) fun q19_2 =>
      some (q19_2.1, q19_2.2)) fun j16 =>
  ck1 q2_1 <|
  if q2_1 = 0 then
    j16
  else
    bn (f_X6_has m x2) fun q10_5 =>
    ck1 q10_5 <|
    if q10_5 ≠ 0 then
      bn (f_X6_bothApart N m x1 x2) fun q26_8 =>
      f_X6_shared_L36 N q26_8.2 q26_8.1 (fun (x4_36 : Int) =>
          some (x4_36, q26_8.2)) N 0 0
    else
      j16
def f_X6_way_L41 (x3 : Int) (x4 : Int) (k : Bd → Option (Int × Bd)) : Nat → Int → Bd → Option (Int × Bd)
  | 0, _, _ => none
  | n + 1, x5, m1 =>
    ck1 x5 <|
    ck1 x3 <|
    if x3 ≤ x5 then
      k m1
    else
      jn (fun (s_64 : Int) =>
          ckA x5 6400 <|
          f_X6_way_L41 x3 x4 k n (x5 + 1) (bS m1 21 (aS (m1 21) x5 s_64))) fun j64 =>
      j64 (if x5 ≠ 0 then 99 else 0)
def f_X6_way_L93 (x3 : Int) (x4 : Int) (x5 : Int) (x6 : Int) (k : Bd → Option (Int × Bd)) : Nat → Int → Bd → Option (Int × Bd)
  | 0, _, _ => none
  | n + 1, x7, m1 =>
    ckA x6 3400 <|
    bn (f_X6_headOf (m1 9 x6)) fun q102_21 =>
    bn (f_X6_parts q102_21) fun q105_22 =>
    ck1 x7 <|
    ck1 q105_22 <|
    if q105_22 ≤ x7 then
      k m1
    else
      bn (f_X6_partOf (m1 9 x6) x7) fun q120_26 =>
      ckA x6 6400 <|
      ckA q120_26 6400 <|
      ck1 ((m1 21 x6) + 1) <|
      ck1 (m1 21 q120_26) <|
      if (m1 21 q120_26) ≤ ((m1 21 x6) + 1) then
        f_X6_way_L93 x3 x4 x5 x6 k n (x7 + 1) (bS m1 21 (aS (m1 21) q120_26 (m1 21 q120_26)))
      else
        f_X6_way_L93 x3 x4 x5 x6 k n (x7 + 1) (bS m1 21 (aS (m1 21) q120_26 ((m1 21 x6) + 1)))
def f_X6_way_L84 (N : Nat) (x3 : Int) (x4 : Int) (x5 : Int) (k : Bd → Option (Int × Bd)) : Nat → Int → Bd → Option (Int × Bd)
  | 0, _, _ => none
  | n + 1, x6, m1 =>
    ck1 x6 <|
    ck1 x3 <|
    if x3 ≤ x6 then
      k m1
    else
      f_X6_way_L93 x3 x4 x5 x6 (fun (m_93 : Bd) =>
          f_X6_way_L84 N x3 x4 x5 k n (x6 + 1) m_93) N 0 m1
def f_X6_way_L74 (N : Nat) (x3 : Int) (x4 : Int) (k : Bd → Option (Int × Bd)) : Nat → Int → Bd → Option (Int × Bd)
  | 0, _, _ => none
  | n + 1, x5, m1 =>
    ck1 x5 <|
    if 40 ≤ x5 then
      k m1
    else
      f_X6_way_L84 N x3 x4 x5 (fun (m_84 : Bd) =>
          f_X6_way_L74 N x3 x4 k n (x5 + 1) m_84) N 0 m1
def f_X6_way_L194 (m1 : Bd) (x3 : Int) (x4 : Int) (k : Int → Option (Int × Bd)) : Nat → Int → Int → Option (Int × Bd)
  | 0, _, _ => none
  | n + 1, x5, x6 =>
    ck1 x6 <|
    ck1 x3 <|
    if x3 ≤ x6 then
      k x5
    else
      ckA x6 3400 <|
      ck1 (m1 13 x6) <|
      ck1 x4 <|
      if (m1 13 x6) ≠ x4 then
        f_X6_way_L194 m1 x3 x4 k n x5 (x6 + 1)
      else
        ckA x6 6400 <|
        f_X6_way_L194 m1 x3 x4 k n (m1 21 x6) (x6 + 1)
def f_X6_way (N : Nat) (m : Bd) (x1 : Int) (x2 : Int) : Option (Int × Bd) :=
  bn (f_X6_has m x1) fun q2_1 =>
  jn (
      bn (f_X6_refuses m (-2)) fun q19_2 =>
      some (q19_2.1, q19_2.2)) fun j16 =>
  ck1 q2_1 <|
  if q2_1 = 0 then
    j16
  else
    bn (f_X6_has m x2) fun q10_5 =>
    ck1 q10_5 <|
    if q10_5 ≠ 0 then
      bn (f_X6_bothApart N m x1 x2) fun q26_8 =>
      ckA q26_8.1 3400 <|
      f_X6_way_L41 q26_8.1 (q26_8.2 13 q26_8.1) (fun (m_41 : Bd) =>
          f_X6_way_L74 N q26_8.1 (q26_8.2 13 q26_8.1) (fun (m_74 : Bd) =>
              f_X6_way_L194 m_74 q26_8.1 (q26_8.2 13 q26_8.1) (fun (x5_194 : Int) =>
                  some (x5_194, m_74)) N (-1) 0) N 0 m_41) N 0 q26_8.2
    else
      j16
def f_X6_size (m : Bd) (x1 : Int) : Option (Int × Bd) :=
  bn (f_X6_has m x1) fun q2_1 =>
  ck1 q2_1 <|
  if q2_1 = 0 then
    bn (f_X6_refuses m (-2)) fun q20_4 =>
    some (q20_4.1, q20_4.2)
  else
    ckA x1 8 <|
    some (m 0 x1, m)
def f_X6_nodeAt (m : Bd) (x1 : Int) (x2 : Int) : Option (Int) :=
  ckA ((40 * x1) + x2) 320 <|
  some (m 1 ((40 * x1) + x2))
def f_X6_head (m : Bd) (x1 : Int) : Option (Int × Bd) :=
  bn (f_X6_has m x1) fun q2_1 =>
  ck1 q2_1 <|
  if q2_1 = 0 then
    bn (f_X6_refuses m (-2)) fun q23_4 =>
    some (q23_4.1, q23_4.2)
  else
    bn (f_X6_nodeAt m x1 0) fun q11_5 =>
    bn (f_X6_headOf q11_5) fun q14_6 =>
    some (q14_6, m)
def f_X6_codeOf_L41 (x1 : Int) (x4 : Int) (x5 : Int) (k : Int → Option (Int)) : Nat → Int → Int → Option (Int)
  | 0, _, _ => none
  | n + 1, x2, x6 =>
    bn (f_X6_headOf x5) fun q45_8 =>
    bn (f_X6_parts q45_8) fun q48_9 =>
    ck1 x6 <|
    ck1 q48_9 <|
    if q48_9 ≤ x6 then
      k x2
    else
      bn (f_X6_partOf x5 x6) fun q63_13 =>
      ck1 q63_13 <|
      f_X6_codeOf_L41 x1 x4 x5 k n ((31 * x2) + q63_13) (x6 + 1)
def f_X6_codeOf_L5 (N : Nat) (m : Bd) (x1 : Int) (k : Int → Option (Int)) : Nat → Int → Int → Option (Int)
  | 0, _, _ => none
  | n + 1, x2, x4 =>
    ckA x1 8 <|
    ck1 x4 <|
    ck1 (m 0 x1) <|
    if (m 0 x1) ≤ x4 then
      k x2
    else
      bn (f_X6_nodeAt m x1 x4) fun q20_5 =>
      bn (f_X6_headOf q20_5) fun q32_6 =>
      ck1 q32_6 <|
      f_X6_codeOf_L41 x1 x4 q20_5 (fun (x2_41 : Int) =>
          f_X6_codeOf_L5 N m x1 k n x2_41 (x4 + 1)) N ((31 * x2) + q32_6) 0
def f_X6_codeOf (N : Nat) (m : Bd) (x1 : Int) : Option (Int) :=
  f_X6_codeOf_L5 N m x1 (fun (x2_5 : Int) =>
      some (x2_5)) N 1 0
def f_X6_code (N : Nat) (m : Bd) (x1 : Int) : Option (Int × Bd) :=
  bn (f_X6_has m x1) fun q2_1 =>
  ck1 q2_1 <|
  if q2_1 = 0 then
    bn (f_X6_refuses m (-2)) fun q19_4 =>
    ck1 q19_4.1 <|
    some (q19_4.1, q19_4.2)
  else
    bn (f_X6_codeOf N m x1) fun q10_6 =>
    some (q10_6, m)
def f_X6_climbs_L10 (x1 : Int) (x2 : Int) (x3 : Int) (k : Bd → Option (Int × Bd)) : Nat → Int → Bd → Option (Int × Bd)
  | 0, _, _ => none
  | n + 1, x4, m1 =>
    ck1 x4 <|
    ck1 x3 <|
    if x3 ≤ x4 then
      k m1
    else
      ckA x4 40 <|
      f_X6_climbs_L10 x1 x2 x3 k n (x4 + 1) (bS m1 34 (aS (m1 34) x4 (-1)))
def f_X6_climbs_L76 (m1 : Bd) (x1 : Int) (x2 : Int) (x3 : Int) (x4 : Int) (x5 : Int) (x6 : Int) (k : Int → Int → Option (Int × Bd)) : Nat → Int → Int → Int → Option (Int × Bd)
  | 0, _, _, _ => none
  | n + 1, x7, x8, x10 =>
    bn (f_X6_headOf x6) fun q80_13 =>
    bn (f_X6_parts q80_13) fun q83_14 =>
    ck1 x10 <|
    ck1 q83_14 <|
    if q83_14 ≤ x10 then
      k x7 x8
    else
      bn (f_X6_partOf x6 x10) fun q97_18 =>
      ckA q97_18 40 <|
      jn (fun (s0_120 : Int) =>
          ck1 x2 <|
          if x2 = 0 then
            ckL ((m1 34 q97_18) + 1) <|
            ckL x8 <|
            ck1 (l_cmp ((m1 34 q97_18) + 1) x8) <|
            if (l_cmp ((m1 34 q97_18) + 1) x8) ≤ 0 then
              f_X6_climbs_L76 m1 x1 x2 x3 x4 x5 x6 k n s0_120 x8 (x10 + 1)
            else
              f_X6_climbs_L76 m1 x1 x2 x3 x4 x5 x6 k n s0_120 ((m1 34 q97_18) + 1) (x10 + 1)
          else
            f_X6_climbs_L76 m1 x1 x2 x3 x4 x5 x6 k n s0_120 (x8 + (m1 34 q97_18)) (x10 + 1)) fun j120 =>
      jn (
          j120 0) fun j119 =>
      ck1 x7 <|
      if x7 = 0 then
        j119
      else
        ckL (m1 34 q97_18) <|
        ck1 (l_cmp (m1 34 q97_18) 0) <|
        if (l_cmp (m1 34 q97_18) 0) < 0 then
          j119
        else
          j120 1
def f_X6_climbs_L44 (N : Nat) (x1 : Int) (x2 : Int) (x3 : Int) (x4 : Int) (k : Bd → Option (Int × Bd)) : Nat → Int → Bd → Option (Int × Bd)
  | 0, _, _ => none
  | n + 1, x5, m1 =>
    ck1 x5 <|
    ck1 x3 <|
    if x3 ≤ x5 then
      k m1
    else
      bn (f_X6_nodeAt m1 x1 x5) fun q54_12 =>
      jn (fun (s0_71 : Int) =>
          f_X6_climbs_L76 m1 x1 x2 x3 x4 x5 q54_12 (fun (x7_76 : Int) (x8_76 : Int) =>
              ck1 x7_76 <|
              if x7_76 ≠ 0 then
                ckL x8_76 <|
                ck1 (l_cmp x8_76 1000000) <|
                if (l_cmp x8_76 1000000) ≤ 0 then
                  ckA x5 40 <|
                  f_X6_climbs_L44 N x1 x2 x3 x4 k n (x5 + 1) (bS m1 34 (aS (m1 34) x5 x8_76))
                else
                  ckA x5 40 <|
                  f_X6_climbs_L44 N x1 x2 x3 x4 k n (x5 + 1) (bS m1 34 (aS (m1 34) x5 1000000))
              else
                ckA x5 40 <|
                f_X6_climbs_L44 N x1 x2 x3 x4 k n (x5 + 1) (bS m1 34 (aS (m1 34) x5 (-1)))) N 1 s0_71 0) fun j71 =>
      ck1 x2 <|
      if x2 = 0 then
        j71 0
      else
        j71 1
def f_X6_climbs_L35 (N : Nat) (x1 : Int) (x2 : Int) (x3 : Int) (k : Bd → Option (Int × Bd)) : Nat → Int → Bd → Option (Int × Bd)
  | 0, _, _ => none
  | n + 1, x4, m1 =>
    ck1 x4 <|
    ck1 x3 <|
    if x3 ≤ x4 then
      k m1
    else
      f_X6_climbs_L44 N x1 x2 x3 x4 (fun (m_44 : Bd) =>
          f_X6_climbs_L35 N x1 x2 x3 k n (x4 + 1) m_44) N 0 m1
def f_X6_climbs (N : Nat) (m : Bd) (x1 : Int) (x2 : Int) : Option (Int × Bd) :=
  ckA x1 8 <|
  f_X6_climbs_L10 x1 x2 (m 0 x1) (fun (m_10 : Bd) =>
      f_X6_climbs_L35 N x1 x2 (m 0 x1) (fun (m_35 : Bd) =>
          some (m_35 34 0, m_35)) N 0 m_10) N 0 m
def f_X6_deep (N : Nat) (m : Bd) (x1 : Int) : Option (Int × Bd) :=
  bn (f_X6_has m x1) fun q2_1 =>
  ck1 q2_1 <|
  if q2_1 = 0 then
    bn (f_X6_refuses m (-2)) fun q21_4 =>
    some (q21_4.1, q21_4.2)
  else
    bn (f_X6_climbs N m x1 0) fun q11_5 =>
    some (q11_5.1, q11_5.2)
def f_X6_heads (N : Nat) (m : Bd) (x1 : Int) : Option (Int × Bd) :=
  bn (f_X6_has m x1) fun q2_1 =>
  ck1 q2_1 <|
  if q2_1 = 0 then
    bn (f_X6_refuses m (-2)) fun q21_4 =>
    some (q21_4.1, q21_4.2)
  else
    bn (f_X6_climbs N m x1 1) fun q11_5 =>
    some (q11_5.1, q11_5.2)
def f_X6_many_L30 (m1 : Bd) (x1 : Int) (x2 : Int) (k : Int → Option (Int × Bd)) : Nat → Int → Int → Option (Int × Bd)
  | 0, _, _ => none
  | n + 1, x3, x4 =>
    ckA x1 8 <|
    ck1 x4 <|
    ck1 (m1 0 x1) <|
    if (m1 0 x1) ≤ x4 then
      k x3
    else
      bn (f_X6_nodeAt m1 x1 x4) fun q46_12 =>
      bn (f_X6_headOf q46_12) fun q49_13 =>
      ck1 q49_13 <|
      ck1 x2 <|
      jn (fun (s_61 : Int) =>
          f_X6_many_L30 m1 x1 x2 k n (x3 + s_61) (x4 + 1)) fun j61 =>
      j61 (if q49_13 ≠ x2 then 0 else 1)
def f_X6_many (N : Nat) (m : Bd) (x1 : Int) (x2 : Int) : Option (Int × Bd) :=
  bn (f_X6_has m x1) fun q2_1 =>
  jn (
      bn (f_X6_refuses m (-2)) fun q21_2 =>
      some (q21_2.1, q21_2.2)) fun j18 =>
  ck1 q2_1 <|
  if q2_1 = 0 then
    j18
  else
    bn (f_X6_in x2 0 6) fun q12_5 =>
    ck1 q12_5 <|
    if q12_5 ≠ 0 then
      f_X6_many_L30 m x1 x2 (fun (x3_30 : Int) =>
          some (x3_30, m)) N 0 0
    else
      j18
def f_X6_looping_L97 (x1 : Int) (x2 : Int) (x3 : Int) (x6 : Int) (x7 : Int) (x8 : Int) (x9 : Int) (k : Int → Option (Int × Bd)) : Nat → Int → Int → Option (Int × Bd)
  | 0, _, _ => none
  | n + 1, x4, x10 =>
    bn (f_X6_headOf x8) fun q101_17 =>
    bn (f_X6_parts q101_17) fun q104_18 =>
    ck1 x10 <|
    ck1 q104_18 <|
    if q104_18 ≤ x10 then
      k x4
    else
      ck1 x9 <|
      if x9 = 0 then
        k x4
      else
        bn (f_X6_partOf x8 x10) fun q122_24 =>
        f_X6_looping_L97 x1 x2 x3 x6 x7 x8 x9 k n (l_or x4 (l_shl 1 q122_24)) (x10 + 1)
def f_X6_looping_L49 (N : Nat) (m1 : Bd) (x1 : Int) (x2 : Int) (x3 : Int) (x6 : Int) (k : Int → Option (Int × Bd)) : Nat → Int → Int → Option (Int × Bd)
  | 0, _, _ => none
  | n + 1, x4, x7 =>
    ckA x1 8 <|
    ck1 x7 <|
    ck1 (m1 0 x1) <|
    if (m1 0 x1) ≤ x7 then
      k x4
    else
      bn (f_X6_nodeAt m1 x1 x7) fun q64_16 =>
      jn (fun (s0_92 : Int) =>
          f_X6_looping_L97 x1 x2 x3 x6 x7 q64_16 s0_92 (fun (x4_97 : Int) =>
              f_X6_looping_L49 N m1 x1 x2 x3 x6 k n x4_97 (x7 + 1)) N x4 0) fun j92 =>
      jn (
          j92 1) fun j87 =>
      ck1 x3 <|
      if x7 = x3 then
        j87
      else
        ckL (l_and (l_shr x4 x7) 1) <|
        ck1 (l_cmp (l_and (l_shr x4 x7) 1) 1) <|
        if (l_cmp (l_and (l_shr x4 x7) 1) 1) ≠ 0 then
          j92 0
        else
          j87
def f_X6_looping_L35 (N : Nat) (m1 : Bd) (x1 : Int) (x2 : Int) (x3 : Int) (k : Int → Option (Int × Bd)) : Nat → Int → Int → Option (Int × Bd)
  | 0, _, _ => none
  | n + 1, x4, x6 =>
    ckA x1 8 <|
    ck1 x6 <|
    ck1 (m1 0 x1) <|
    if (m1 0 x1) < x6 then
      k x4
    else
      f_X6_looping_L49 N m1 x1 x2 x3 x6 (fun (x4_49 : Int) =>
          f_X6_looping_L35 N m1 x1 x2 x3 k n x4_49 (x6 + 1)) N x4 0
def f_X6_looping_L19 (N : Nat) (m1 : Bd) (x1 : Int) (k : Int → Option (Int × Bd)) : Nat → Int → Int → Option (Int × Bd)
  | 0, _, _ => none
  | n + 1, x2, x3 =>
    ckA x1 8 <|
    ck1 x3 <|
    ck1 (m1 0 x1) <|
    if (m1 0 x1) ≤ x3 then
      k x2
    else
      f_X6_looping_L35 N m1 x1 x2 x3 (fun (x4_35 : Int) =>
          ckL (l_and (l_shr x4_35 x3) 1) <|
          ck1 (l_cmp (l_and (l_shr x4_35 x3) 1) 1) <|
          jn (fun (s_164 : Int) =>
              f_X6_looping_L19 N m1 x1 k n (x2 + s_164) (x3 + 1)) fun j164 =>
          j164 (if (l_cmp (l_and (l_shr x4_35 x3) 1) 1) ≠ 0 then 0 else 1)) N 0 0
def f_X6_looping (N : Nat) (m : Bd) (x1 : Int) : Option (Int × Bd) :=
  bn (f_X6_has m x1) fun q2_1 =>
  ck1 q2_1 <|
  if q2_1 ≠ 0 then
    f_X6_looping_L19 N m x1 (fun (x2_19 : Int) =>
        some (x2_19, m)) N 0 0
  else
    bn (f_X6_refuses m (-2)) fun q11_33 =>
    some (q11_33.1, q11_33.2)
def f_X6_leastOf_L2 (x1 : Int) (k : Bd → Option (Int × Bd)) : Nat → Int → Bd → Option (Int × Bd)
  | 0, _, _ => none
  | n + 1, x2, m1 =>
    ckA x1 8 <|
    ck1 x2 <|
    ck1 (m1 0 x1) <|
    if (m1 0 x1) ≤ x2 then
      k m1
    else
      ckA x2 40 <|
      f_X6_leastOf_L2 x1 k n (x2 + 1) (bS m1 34 (aS (m1 34) x2 (-1)))
def f_X6_leastOf_L41 (x1 : Int) (x2 : Int) (k : Bd → Option (Int × Bd)) : Nat → Int → Bd → Option (Int × Bd)
  | 0, _, _ => none
  | n + 1, x3, m1 =>
    ckA x1 8 <|
    ck1 x3 <|
    ck1 (m1 0 x1) <|
    if (m1 0 x1) ≤ x3 then
      k m1
    else
      bn (f_X6_nodeAt m1 x1 x3) fun q54_14 =>
      bn (f_X6_headOf q54_14) fun q61_15 =>
      bn (f_X6_partOf q54_14 0) fun q73_16 =>
      ckA q73_16 40 <|
      bn (f_X6_partOf q54_14 1) fun q86_18 =>
      ckA q86_18 40 <|
      jn (fun (s0_140 : Int) =>
          ckL s0_140 <|
          ck1 (l_cmp s0_140 1000000) <|
          if (l_cmp s0_140 1000000) ≤ 0 then
            ckA x3 40 <|
            f_X6_leastOf_L41 x1 x2 k n (x3 + 1) (bS m1 34 (aS (m1 34) x3 s0_140))
          else
            ckA x3 40 <|
            f_X6_leastOf_L41 x1 x2 k n (x3 + 1) (bS m1 34 (aS (m1 34) x3 1000000))) fun j140 =>
      ck1 q61_15 <|
      if q61_15 ≠ 0 then
        if q61_15 = 5 then
          ckL (m1 34 q73_16) <|
          ck1 (l_cmp (m1 34 q73_16) 0) <|
          if (l_cmp (m1 34 q73_16) 0) < 0 then
            j140 (-1)
          else
            ckL (m1 34 q86_18) <|
            ck1 (l_cmp (m1 34 q86_18) 0) <|
            if 0 ≤ (l_cmp (m1 34 q86_18) 0) then
              j140 ((1 + (m1 34 q73_16)) + (m1 34 q86_18))
            else
              j140 (-1)
        else
          j140 1
      else
        j140 (-1)
def f_X6_leastOf_L29 (N : Nat) (x1 : Int) (k : Bd → Option (Int × Bd)) : Nat → Int → Bd → Option (Int × Bd)
  | 0, _, _ => none
  | n + 1, x2, m1 =>
    ckA x1 8 <|
    ck1 x2 <|
    ck1 (m1 0 x1) <|
    if (m1 0 x1) ≤ x2 then
      k m1
    else
      f_X6_leastOf_L41 x1 x2 (fun (m_41 : Bd) =>
          f_X6_leastOf_L29 N x1 k n (x2 + 1) m_41) N 0 m1
def f_X6_leastOf (N : Nat) (m : Bd) (x1 : Int) : Option (Int × Bd) :=
  f_X6_leastOf_L2 x1 (fun (m_2 : Bd) =>
      f_X6_leastOf_L29 N x1 (fun (m_29 : Bd) =>
          some (m_29 34 0, m_29)) N 0 m_2) N 0 m
def f_X6_filled (N : Nat) (m : Bd) (x1 : Int) : Option (Int × Bd) :=
  bn (f_X6_has m x1) fun q2_1 =>
  ck1 q2_1 <|
  if q2_1 ≠ 0 then
    bn (f_X6_leastOf N m x1) fun q17_4 =>
    ck1 q17_4.1 <|
    jn (fun (s_28 : Int) =>
        some (s_28, q17_4.2)) fun j28 =>
    j28 (if q17_4.1 ≤ 0 then 0 else 1)
  else
    bn (f_X6_refuses m (-2)) fun q11_7 =>
    some (q11_7.1, q11_7.2)
def f_X6_least (N : Nat) (m : Bd) (x1 : Int) : Option (Int × Bd) :=
  bn (f_X6_has m x1) fun q2_1 =>
  ck1 q2_1 <|
  if q2_1 = 0 then
    bn (f_X6_refuses m (-2)) fun q19_4 =>
    some (q19_4.1, q19_4.2)
  else
    bn (f_X6_leastOf N m x1) fun q10_5 =>
    some (q10_5.1, q10_5.2)
def f_X6_signs_L33 (x3 : Int) (k : Bd → Option (Int × Bd)) : Nat → Int → Bd → Option (Int × Bd)
  | 0, _, _ => none
  | n + 1, x4, m1 =>
    ck1 x4 <|
    ck1 x3 <|
    if x3 ≤ x4 then
      k m1
    else
      jn (fun (s_55 : Int) =>
          ckA x4 6400 <|
          f_X6_signs_L33 x3 k n (x4 + 1) (bS m1 21 (aS (m1 21) x4 s_55))) fun j55 =>
      j55 (if x4 ≠ 0 then 0 else 1)
def f_X6_signs_L96 (x3 : Int) (x4 : Int) (x5 : Int) (x6 : Int) (k : Bd → Option (Int × Bd)) : Nat → Int → Bd → Option (Int × Bd)
  | 0, _, _ => none
  | n + 1, x7, m1 =>
    bn (f_X6_parts x6) fun q100_21 =>
    ck1 x7 <|
    ck1 q100_21 <|
    if q100_21 ≤ x7 then
      k m1
    else
      ckA x5 6400 <|
      jn (fun (s0_132 : Int) =>
          ckA x5 3400 <|
          bn (f_X6_partOf (m1 9 x5) x7) fun q147_27 =>
          ckA q147_27 6400 <|
          ck1 s0_132 <|
          if s0_132 = 0 then
            f_X6_signs_L96 x3 x4 x5 x6 k n (x7 + 1) (bS m1 21 (aS (m1 21) q147_27 (i_or (m1 21 q147_27) (m1 21 x5))))
          else
            f_X6_signs_L96 x3 x4 x5 x6 k n (x7 + 1) (bS m1 21 (aS (m1 21) q147_27 (i_or (m1 21 q147_27) (i_or (i_shr (m1 21 x5) 1) (i_and (i_shl (m1 21 x5) 1) 2)))))) fun j132 =>
      jn (
          j132 0) fun j131 =>
      ck1 x6 <|
      if x6 ≠ 6 then
        j131
      else
        if x7 ≠ 0 then
          j131
        else
          j132 1
def f_X6_signs_L75 (N : Nat) (x3 : Int) (x4 : Int) (k : Bd → Option (Int × Bd)) : Nat → Int → Bd → Option (Int × Bd)
  | 0, _, _ => none
  | n + 1, x5, m1 =>
    ck1 x5 <|
    ck1 x3 <|
    if x3 ≤ x5 then
      k m1
    else
      ckA x5 3400 <|
      bn (f_X6_headOf (m1 9 x5)) fun q88_20 =>
      f_X6_signs_L96 x3 x4 x5 q88_20 (fun (m_96 : Bd) =>
          f_X6_signs_L75 N x3 x4 k n (x5 + 1) m_96) N 0 m1
def f_X6_signs_L65 (N : Nat) (x3 : Int) (k : Bd → Option (Int × Bd)) : Nat → Int → Bd → Option (Int × Bd)
  | 0, _, _ => none
  | n + 1, x4, m1 =>
    ck1 x4 <|
    if 80 ≤ x4 then
      k m1
    else
      f_X6_signs_L75 N x3 x4 (fun (m_75 : Bd) =>
          f_X6_signs_L65 N x3 k n (x4 + 1) m_75) N 0 m1
def f_X6_signs_L199 (m1 : Bd) (x3 : Int) (k : Int → Option (Int × Bd)) : Nat → Int → Int → Option (Int × Bd)
  | 0, _, _ => none
  | n + 1, x4, x5 =>
    ck1 x5 <|
    ck1 x3 <|
    if x3 ≤ x5 then
      k x4
    else
      ckA x5 3400 <|
      ckA x3 3400 <|
      ck1 (m1 13 x5) <|
      ck1 (m1 13 x3) <|
      if (m1 13 x5) ≠ (m1 13 x3) then
        f_X6_signs_L199 m1 x3 k n (i_or x4 0) (x5 + 1)
      else
        ckA x5 6400 <|
        f_X6_signs_L199 m1 x3 k n (i_or x4 (m1 21 x5)) (x5 + 1)
def f_X6_signs (N : Nat) (m : Bd) (x1 : Int) (x2 : Int) : Option (Int × Bd) :=
  bn (f_X6_has m x1) fun q2_1 =>
  jn (
      bn (f_X6_refuses m (-2)) fun q19_2 =>
      some (q19_2.1, q19_2.2)) fun j16 =>
  ck1 q2_1 <|
  if q2_1 = 0 then
    j16
  else
    bn (f_X6_has m x2) fun q10_5 =>
    ck1 q10_5 <|
    if q10_5 ≠ 0 then
      bn (f_X6_bothApart N m x1 x2) fun q26_8 =>
      f_X6_signs_L33 q26_8.1 (fun (m_33 : Bd) =>
          f_X6_signs_L65 N q26_8.1 (fun (m_65 : Bd) =>
              f_X6_signs_L199 m_65 q26_8.1 (fun (x4_199 : Int) =>
                  some (x4_199, m_65)) N 0 0) N 0 m_33) N 0 q26_8.2
    else
      j16
def f_X6_gives_L23 (x2 : Int) (k : Bd → Option (Int × Bd)) : Nat → Int → Bd → Option (Int × Bd)
  | 0, _, _ => none
  | n + 1, x3, m1 =>
    ck1 x3 <|
    ck1 (m1 17 0) <|
    if (m1 17 0) ≤ x3 then
      k m1
    else
      ckA x3 41 <|
      ckA ((40 * x2) + x3) 320 <|
      f_X6_gives_L23 x2 k n (x3 + 1) (bS m1 1 (aS (m1 1) ((40 * x2) + x3) (m1 16 x3)))
def f_X6_gives (N : Nat) (m : Bd) (x1 : Int) (x2 : Int) : Option (Int × Bd) :=
  bn (f_X6_makes N m x1) fun q2_1 =>
  ck1 q2_1.1 <|
  if q2_1.1 ≤ 40 then
    bn (f_X6_keeps N q2_1.2) fun q18_4 =>
    f_X6_gives_L23 x2 (fun (m_23 : Bd) =>
        ckA x2 8 <|
        some (m_23 17 0, (bS m_23 0 (aS (m_23 0) x2 (m_23 17 0))))) N 0 q18_4
  else
    bn (f_X6_refuses q2_1.2 (-4)) fun q13_11 =>
    some (q13_11.1, q13_11.2)
def f_X6_base (N : Nat) (m : Bd) (x1 : Int) (x2 : Int) : Option (Int × Bd) :=
  bn (f_X6_in x1 0 3) fun q3_1 =>
  jn (
      bn (f_X6_refuses m (-2)) fun q19_2 =>
      some (q19_2.1, q19_2.2)) fun j16 =>
  ck1 q3_1 <|
  if q3_1 = 0 then
    j16
  else
    bn (f_X6_isName x2) fun q10_5 =>
    ck1 q10_5 <|
    if q10_5 ≠ 0 then
      bn (f_X6_adds (bs0 m 10 0) x1 0 0) fun q33_8 =>
      bn (f_X6_gives N q33_8.2 q33_8.1 x2) fun q37_9 =>
      some (q37_9.1, q37_9.2)
    else
      j16
def f_X6_make (N : Nat) (m : Bd) (x1 : Int) (x2 : Int) (x3 : Int) (x4 : Int) : Option (Int × Bd) :=
  bn (f_X6_in x1 4 6) fun q4_1 =>
  jn (
      bn (f_X6_refuses m (-2)) fun q37_2 =>
      some (q37_2.1, q37_2.2)) fun j34 =>
  ck1 q4_1 <|
  if q4_1 = 0 then
    j34
  else
    bn (f_X6_has m x2) fun q12_5 =>
    ck1 q12_5 <|
    if q12_5 = 0 then
      j34
    else
      bn (f_X6_has m x3) fun q20_8 =>
      ck1 q20_8 <|
      if q20_8 = 0 then
        j34
      else
        bn (f_X6_isName x4) fun q28_11 =>
        ck1 q28_11 <|
        if q28_11 ≠ 0 then
          bn (f_X6_both N m x2 x3) fun q44_14 =>
          bn (f_X6_adds q44_14.2 x1 0 q44_14.1) fun q55_15 =>
          bn (f_X6_gives N q55_15.2 q55_15.1 x4) fun q60_16 =>
          some (q60_16.1, q60_16.2)
        else
          j34
def f_X6_part (N : Nat) (m : Bd) (x1 : Int) (x2 : Int) (x3 : Int) : Option (Int × Bd) :=
  bn (f_X6_has m x1) fun q2_1 =>
  jn (
      bn (f_X6_refuses m (-2)) fun q27_2 =>
      some (q27_2.1, q27_2.2)) fun j24 =>
  ck1 q2_1 <|
  if q2_1 = 0 then
    j24
  else
    bn (f_X6_in x2 0 1) fun q11_5 =>
    ck1 q11_5 <|
    if q11_5 = 0 then
      j24
    else
      bn (f_X6_isName x3) fun q18_8 =>
      ck1 q18_8 <|
      if q18_8 ≠ 0 then
        bn (f_X6_nodeAt m x1 0) fun q35_11 =>
        bn (f_X6_headOf q35_11) fun q38_12 =>
        bn (f_X6_parts q38_12) fun q41_13 =>
        ck1 x2 <|
        ck1 q41_13 <|
        if x2 < q41_13 then
          bn (f_X6_loads N (bs0 m 10 0) x1) fun q61_17 =>
          ckA q61_17.1 3400 <|
          bn (f_X6_partOf (q61_17.2 9 q61_17.1) x2) fun q75_19 =>
          bn (f_X6_gives N q61_17.2 q75_19 x3) fun q79_20 =>
          some (q79_20.1, q79_20.2)
        else
          bn (f_X6_refuses m (-3)) fun q50_21 =>
          some (q50_21.1, q50_21.2)
      else
        j24
def f_X6_copy (N : Nat) (m : Bd) (x1 : Int) (x2 : Int) : Option (Int × Bd) :=
  bn (f_X6_has m x1) fun q2_1 =>
  jn (
      bn (f_X6_refuses m (-2)) fun q18_2 =>
      some (q18_2.1, q18_2.2)) fun j15 =>
  ck1 q2_1 <|
  if q2_1 = 0 then
    j15
  else
    bn (f_X6_isName x2) fun q9_5 =>
    ck1 q9_5 <|
    if q9_5 ≠ 0 then
      bn (f_X6_loads N (bs0 m 10 0) x1) fun q30_8 =>
      bn (f_X6_gives N q30_8.2 q30_8.1 x2) fun q34_9 =>
      some (q34_9.1, q34_9.2)
    else
      j15
def f_X6_pairOf (m : Bd) (x1 : Int) (x2 : Int) (x3 : Int) (x4 : Int) : Option (Int × Bd) :=
  jn (fun (s1_20 : Int) =>
      ckA ((2 * (((40 * x1) + x2) - x4)) + s1_20) 6400 <|
      ck1 (m 18 ((2 * (((40 * x1) + x2) - x4)) + s1_20)) <|
      if (m 18 ((2 * (((40 * x1) + x2) - x4)) + s1_20)) ≠ 0 then
        some ((m 18 ((2 * (((40 * x1) + x2) - x4)) + s1_20)) - 1, m)
      else
        bn (f_X6_adds m 0 0 0) fun q43_4 =>
        ckA (q43_4.2 30 0) 6400 <|
        some (((aS (q43_4.2 18) ((2 * (((40 * x1) + x2) - x4)) + s1_20) (q43_4.1 + 1)) ((2 * (((40 * x1) + x2) - x4)) + s1_20)) - 1, (bs0 (bS (bS q43_4.2 18 (aS (q43_4.2 18) ((2 * (((40 * x1) + x2) - x4)) + s1_20) (q43_4.1 + 1))) 19 (aS (q43_4.2 19) (q43_4.2 30 0) ((2 * (((40 * x1) + x2) - x4)) + s1_20))) 30 ((q43_4.2 30 0) + 1)))) fun j20 =>
  ck1 x3 <|
  if x3 = 0 then
    j20 0
  else
    j20 1
def f_X6_tells (m : Bd) (x1 : Int) (x2 : Int) : Option (Bd) :=
  ck1 x1 <|
  jn (fun (s0_12 : Int) =>
      ck1 (Int.tdiv x1 2) <|
      ckA (Int.tdiv (Int.tdiv x1 2) 40) 3400 <|
      ckA (x2 + (Int.tmod (Int.tdiv x1 2) 40)) 3400 <|
      ckA x1 6400 <|
      bn (f_X6_headOf (m 9 (Int.tdiv (Int.tdiv x1 2) 40))) fun q53_6 =>
      bn (f_X6_headOf (m 9 (x2 + (Int.tmod (Int.tdiv x1 2) 40)))) fun q60_7 =>
      jn (fun (s0_74 : Int) =>
          jn (fun (s0_85 : Int) =>
              ck1 q53_6 <|
              ck1 s0_74 <|
              if q53_6 ≠ s0_74 then
                ck1 q60_7 <|
                if q60_7 ≠ s0_74 then
                  jn (
                      jn (
                          if q53_6 ≠ q60_7 then
                            jn (
                                bn (f_X6_node s0_85 0 0) fun q338_14 =>
                                ckA ((m 18 x1) - 1) 3400 <|
                                some ((bS m 9 (aS (m 9) ((m 18 x1) - 1) q338_14)))) fun j328 =>
                            ck1 (q53_6 + q60_7) <|
                            if (q53_6 + q60_7) ≠ 3 then
                              j328
                            else
                              if q53_6 ≤ 0 then
                                j328
                              else
                                if q60_7 ≤ 0 then
                                  j328
                                else
                                  jn (fun (s2_319 : Int) =>
                                      bn (f_X6_node s2_319 0 0) fun q321_20 =>
                                      ckA ((m 18 x1) - 1) 3400 <|
                                      some ((bS m 9 (aS (m 9) ((m 18 x1) - 1) q321_20)))) fun j319 =>
                                  ck1 s0_12 <|
                                  if s0_12 = 0 then
                                    j319 1
                                  else
                                    j319 2
                          else
                            bn (f_X6_node q53_6 0 0) fun q278_24 =>
                            ckA ((m 18 x1) - 1) 3400 <|
                            some ((bS m 9 (aS (m 9) ((m 18 x1) - 1) q278_24)))) fun j261 =>
                      if q53_6 ≠ q60_7 then
                        j261
                      else
                        bn (f_X6_parts q53_6) fun q180_27 =>
                        ck1 q180_27 <|
                        if q180_27 ≠ 2 then
                          j261
                        else
                          bn (f_X6_partOf (m 9 (Int.tdiv (Int.tdiv x1 2) 40)) 0) fun q191_30 =>
                          bn (f_X6_partOf (m 9 (x2 + (Int.tmod (Int.tdiv x1 2) 40))) 0) fun q197_31 =>
                          jn (fun (s3_220 : Int) =>
                              bn (f_X6_pairOf m q191_30 q197_31 s3_220 x2) fun q221_32 =>
                              bn (f_X6_partOf (m 9 (Int.tdiv (Int.tdiv x1 2) 40)) 1) fun q240_33 =>
                              bn (f_X6_partOf (m 9 (x2 + (Int.tmod (Int.tdiv x1 2) 40))) 1) fun q246_34 =>
                              bn (f_X6_pairOf q221_32.2 q240_33 q246_34 s0_12 x2) fun q251_35 =>
                              bn (f_X6_node q53_6 q221_32.1 q251_35.1) fun q254_36 =>
                              ckA ((m 18 x1) - 1) 3400 <|
                              some ((bS q251_35.2 9 (aS (q251_35.2 9) ((m 18 x1) - 1) q254_36)))) fun j220 =>
                          if q53_6 ≠ 6 then
                            j220 s0_12
                          else
                            ck1 s0_12 <|
                            if s0_12 ≠ 0 then
                              j220 0
                            else
                              j220 1) fun j171 =>
                  if q53_6 ≠ q60_7 then
                    j171
                  else
                    if q53_6 ≠ 4 then
                      j171
                    else
                      bn (f_X6_partOf (m 9 (Int.tdiv (Int.tdiv x1 2) 40)) 0) fun q149_43 =>
                      bn (f_X6_partOf (m 9 (x2 + (Int.tmod (Int.tdiv x1 2) 40))) 0) fun q155_44 =>
                      bn (f_X6_pairOf m q149_43 q155_44 s0_12 x2) fun q160_45 =>
                      bn (f_X6_node 4 q160_45.1 0) fun q164_46 =>
                      ckA ((m 18 x1) - 1) 3400 <|
                      some ((bS q160_45.2 9 (aS (q160_45.2 9) ((m 18 x1) - 1) q164_46)))
                else
                  ckA ((m 18 x1) - 1) 3400 <|
                  some ((bS m 9 (aS (m 9) ((m 18 x1) - 1) (m 9 (Int.tdiv (Int.tdiv x1 2) 40)))))
              else
                ckA ((m 18 x1) - 1) 3400 <|
                some ((bS m 9 (aS (m 9) ((m 18 x1) - 1) (m 9 (x2 + (Int.tmod (Int.tdiv x1 2) 40))))))) fun j85 =>
          ck1 s0_12 <|
          if s0_12 = 0 then
            j85 0
          else
            j85 3) fun j74 =>
      ck1 s0_12 <|
      if s0_12 = 0 then
        j74 3
      else
        j74 0) fun j12 =>
  ck1 (Int.tmod x1 2) <|
  if (Int.tmod x1 2) ≠ 1 then
    j12 0
  else
    j12 1
def f_X6_bound_L51 (x1 : Int) (x4 : Int) (x5 : Int) (k : Bd → Option (Int × Bd)) : Nat → Int → Bd → Option (Int × Bd)
  | 0, _, _ => none
  | n + 1, x6, m1 =>
    ck1 x6 <|
    if 3200 ≤ x6 then
      k m1
    else
      ckA x6 6400 <|
      f_X6_bound_L51 x1 x4 x5 k n (x6 + 1) (bS m1 18 (aS (m1 18) x6 0))
def f_X6_bound_L102 (x4 : Int) (x5 : Int) (x6 : Int) (k : Bd → Option (Int × Bd)) : Nat → Int → Bd → Option (Int × Bd)
  | 0, _, _ => none
  | n + 1, x7, m1 =>
    ck1 x7 <|
    ck1 (m1 30 0) <|
    if (m1 30 0) ≤ x7 then
      k m1
    else
      ckA x7 6400 <|
      bn (f_X6_tells m1 (m1 19 x7) x5) fun q121_23 =>
      f_X6_bound_L102 x4 x5 x6 k n (x7 + 1) q121_23
def f_X6_bound (N : Nat) (m : Bd) (x1 : Int) (x2 : Int) (x3 : Int) (x4 : Int) : Option (Int × Bd) :=
  bn (f_X6_in x1 0 1) fun q3_1 =>
  jn (
      bn (f_X6_refuses m (-2)) fun q36_2 =>
      some (q36_2.1, q36_2.2)) fun j33 =>
  ck1 q3_1 <|
  if q3_1 = 0 then
    j33
  else
    bn (f_X6_has m x2) fun q11_5 =>
    ck1 q11_5 <|
    if q11_5 = 0 then
      j33
    else
      bn (f_X6_has m x3) fun q19_8 =>
      ck1 q19_8 <|
      if q19_8 = 0 then
        j33
      else
        bn (f_X6_isName x4) fun q27_11 =>
        ck1 q27_11 <|
        if q27_11 ≠ 0 then
          bn (f_X6_both N m x2 x3) fun q43_14 =>
          f_X6_bound_L51 x1 x4 q43_14.1 (fun (m_51 : Bd) =>
              jn (fun (s3_92 : Int) =>
                  bn (f_X6_pairOf (bs0 m_51 30 0) 0 q43_14.1 s3_92 q43_14.1) fun q94_18 =>
                  f_X6_bound_L102 x4 q43_14.1 q94_18.1 (fun (m_102 : Bd) =>
                      bn (f_X6_gives N m_102 q94_18.1 x4) fun q135_24 =>
                      some (q135_24.1, q135_24.2)) N 0 q94_18.2) fun j92 =>
              ck1 x1 <|
              if x1 ≠ 1 then
                j92 0
              else
                j92 1) N 0 q43_14.2
        else
          j33
def f_X6_swap_L66 (x4 : Int) (x5 : Int) (x6 : Int) (x7 : Int) (k : Bd → Option (Int × Bd)) : Nat → Int → Bd → Option (Int × Bd)
  | 0, _, _ => none
  | n + 1, x8, m1 =>
    ck1 x8 <|
    ck1 x5 <|
    if x5 ≤ x8 then
      k m1
    else
      ckA x8 3400 <|
      bn (f_X6_partOf (m1 9 x8) 0) fun q85_21 =>
      bn (f_X6_partOf (m1 9 x8) 1) fun q93_22 =>
      bn (f_X6_headOf (m1 9 x8)) fun q100_23 =>
      bn (f_X6_parts q100_23) fun q103_24 =>
      jn (fun (s0_114 : Int) =>
          bn (f_X6_headOf (m1 9 x8)) fun q118_25 =>
          bn (f_X6_parts q118_25) fun q121_26 =>
          jn (fun (s0_133 : Int) =>
              bn (f_X6_headOf (m1 9 x8)) fun q143_27 =>
              jn (fun (s3_170 : Int) =>
                  jn (fun (s4_194 : Int) =>
                      bn (f_X6_node q143_27 s3_170 s4_194) fun q194_28 =>
                      f_X6_swap_L66 x4 x5 x6 x7 k n (x8 + 1) (bS m1 9 (aS (m1 9) x8 q194_28))) fun j194 =>
                  jn (
                      j194 q93_22) fun j192 =>
                  ck1 s0_133 <|
                  if s0_133 = 0 then
                    j192
                  else
                    ckA q93_22 3400 <|
                    ck1 (m1 13 q93_22) <|
                    ck1 x6 <|
                    if (m1 13 q93_22) ≠ x6 then
                      j192
                    else
                      j194 x7) fun j170 =>
              jn (
                  j170 q85_21) fun j168 =>
              ck1 s0_114 <|
              if s0_114 = 0 then
                j168
              else
                ckA q85_21 3400 <|
                ck1 (m1 13 q85_21) <|
                ck1 x6 <|
                if (m1 13 q85_21) ≠ x6 then
                  j168
                else
                  j170 x7) fun j133 =>
          ck1 q121_26 <|
          if q121_26 ≤ 1 then
            j133 0
          else
            j133 1) fun j114 =>
      ck1 q103_24 <|
      if q103_24 ≤ 0 then
        j114 0
      else
        j114 1
def f_X6_swap (N : Nat) (m : Bd) (x1 : Int) (x2 : Int) (x3 : Int) (x4 : Int) : Option (Int × Bd) :=
  bn (f_X6_has m x1) fun q2_1 =>
  jn (
      bn (f_X6_refuses m (-2)) fun q35_2 =>
      some (q35_2.1, q35_2.2)) fun j32 =>
  ck1 q2_1 <|
  if q2_1 = 0 then
    j32
  else
    bn (f_X6_has m x2) fun q10_5 =>
    ck1 q10_5 <|
    if q10_5 = 0 then
      j32
    else
      bn (f_X6_has m x3) fun q18_8 =>
      ck1 q18_8 <|
      if q18_8 = 0 then
        j32
      else
        bn (f_X6_isName x4) fun q26_11 =>
        ck1 q26_11 <|
        if q26_11 ≠ 0 then
          bn (f_X6_bothApart N m x1 x2) fun q42_14 =>
          ckA q42_14.1 3400 <|
          bn (f_X6_loads N q42_14.2 x3) fun q58_16 =>
          f_X6_swap_L66 x4 q42_14.1 (q42_14.2 13 q42_14.1) q58_16.1 (fun (m_66 : Bd) =>
              jn (fun (s1_222 : Int) =>
                  bn (f_X6_gives N m_66 s1_222 x4) fun q224_45 =>
                  some (q224_45.1, q224_45.2)) fun j222 =>
              ck1 (m_66 13 0) <|
              ck1 (q42_14.2 13 q42_14.1) <|
              if (m_66 13 0) ≠ (q42_14.2 13 q42_14.1) then
                j222 0
              else
                j222 q58_16.1) N 0 q58_16.2
        else
          j32
def f_X6_cut_L56 (x1 : Int) (x2 : Int) (x3 : Int) (x4 : Int) (x5 : Int) (k : Bd → Option (Int × Bd)) : Nat → Int → Bd → Option (Int × Bd)
  | 0, _, _ => none
  | n + 1, x6, m1 =>
    ck1 x6 <|
    ck1 x4 <|
    if x4 ≤ x6 then
      k m1
    else
      bn (f_X6_nodeAt m1 x1 x6) fun q67_17 =>
      ck1 x5 <|
      ck1 x2 <|
      if x5 ≠ x2 then
        bn (f_X6_headOf q67_17) fun q104_21 =>
        bn (f_X6_partOf q67_17 0) fun q112_22 =>
        bn (f_X6_partOf q67_17 1) fun q121_23 =>
        bn (f_X6_adds m1 q104_21 ((((m1 10 0) - x6) - x4) + q112_22) ((((m1 10 0) - x6) - x4) + q121_23)) fun q125_24 =>
        f_X6_cut_L56 x1 x2 x3 x4 x5 k n (x6 + 1) q125_24.2
      else
        bn (f_X6_adds m1 3 0 0) fun q94_25 =>
        f_X6_cut_L56 x1 x2 x3 x4 x5 k n (x6 + 1) q94_25.2
def f_X6_cut_L48 (N : Nat) (x1 : Int) (x2 : Int) (x3 : Int) (x4 : Int) (k : Bd → Option (Int × Bd)) : Nat → Int → Bd → Option (Int × Bd)
  | 0, _, _ => none
  | n + 1, x5, m1 =>
    ck1 x5 <|
    if x5 < 0 then
      k m1
    else
      f_X6_cut_L56 x1 x2 x3 x4 x5 (fun (m_56 : Bd) =>
          f_X6_cut_L48 N x1 x2 x3 x4 k n (x5 + (-1)) m_56) N 0 m1
def f_X6_cut (N : Nat) (m : Bd) (x1 : Int) (x2 : Int) (x3 : Int) : Option (Int × Bd) :=
  bn (f_X6_has m x1) fun q2_1 =>
  jn (
      bn (f_X6_refuses m (-2)) fun q28_2 =>
      some (q28_2.1, q28_2.2)) fun j25 =>
  ck1 q2_1 <|
  if q2_1 = 0 then
    j25
  else
    bn (f_X6_in x2 0 9) fun q12_5 =>
    ck1 q12_5 <|
    if q12_5 = 0 then
      j25
    else
      bn (f_X6_isName x3) fun q19_8 =>
      ck1 q19_8 <|
      if q19_8 ≠ 0 then
        ckA x1 8 <|
        f_X6_cut_L48 N x1 x2 x3 (m 0 x1) (fun (m_48 : Bd) =>
            bn (f_X6_gives N m_48 ((m_48 10 0) - (m 0 x1)) x3) fun q150_26 =>
            some (q150_26.1, q150_26.2)) N x2 (bs0 m 10 0)
      else
        j25
def f_X6_turn_L47 (x2 : Int) (x3 : Int) (x4 : Int) (k : Bd → Option (Int × Bd)) : Nat → Int → Bd → Option (Int × Bd)
  | 0, _, _ => none
  | n + 1, x5, m1 =>
    ck1 x5 <|
    ck1 (m1 10 0) <|
    if (m1 10 0) ≤ x5 then
      k m1
    else
      ckA x5 3400 <|
      bn (f_X6_headOf (m1 9 x5)) fun q73_16 =>
      ck1 q73_16 <|
      ck1 x2 <|
      if q73_16 ≠ x2 then
        f_X6_turn_L47 x2 x3 x4 k n (x5 + 1) (bS m1 9 (aS (m1 9) x5 (m1 9 x5)))
      else
        bn (f_X6_partOf (m1 9 x5) 1) fun q84_20 =>
        bn (f_X6_partOf (m1 9 x5) 0) fun q90_21 =>
        bn (f_X6_node x2 q84_20 q90_21) fun q93_22 =>
        f_X6_turn_L47 x2 x3 x4 k n (x5 + 1) (bS m1 9 (aS (m1 9) x5 q93_22))
def f_X6_turn (N : Nat) (m : Bd) (x1 : Int) (x2 : Int) (x3 : Int) : Option (Int × Bd) :=
  bn (f_X6_has m x1) fun q2_1 =>
  jn (
      bn (f_X6_refuses m (-2)) fun q28_2 =>
      some (q28_2.1, q28_2.2)) fun j25 =>
  ck1 q2_1 <|
  if q2_1 = 0 then
    j25
  else
    bn (f_X6_in x2 5 6) fun q12_5 =>
    ck1 q12_5 <|
    if q12_5 = 0 then
      j25
    else
      bn (f_X6_isName x3) fun q19_8 =>
      ck1 q19_8 <|
      if q19_8 ≠ 0 then
        bn (f_X6_loads N (bs0 m 10 0) x1) fun q39_11 =>
        f_X6_turn_L47 x2 x3 q39_11.1 (fun (m_47 : Bd) =>
            bn (f_X6_gives N m_47 q39_11.1 x3) fun q112_23 =>
            some (q112_23.1, q112_23.2)) N 0 q39_11.2
      else
        j25
def f_X6_draw_L46 (x2 : Int) (x3 : Int) (k : Bd → Option (Int × Bd)) : Nat → Int → Int → Bd → Option (Int × Bd)
  | 0, _, _, _ => none
  | n + 1, x4, x6, m1 =>
    ck1 x6 <|
    ck1 x2 <|
    if x2 ≤ x6 then
      k m1
    else
      ckL ((x4 * 1103515245) + 12345) <|
      ckL (Int.tmod ((x4 * 1103515245) + 12345) 2147483648) <|
      ckL (Int.tdiv (Int.tmod ((x4 * 1103515245) + 12345) 2147483648) 65536) <|
      ckL (Int.tdiv (Int.tmod ((x4 * 1103515245) + 12345) 2147483648) 1024) <|
      ckL x2 <|
      ckZ x2 <|
      ckL (Int.tdiv (Int.tmod ((x4 * 1103515245) + 12345) 2147483648) 32768) <|
      bn (f_X6_adds m1 (Int.tmod (Int.tdiv (Int.tmod ((x4 * 1103515245) + 12345) 2147483648) 65536) 7) (Int.tmod (Int.tdiv (Int.tmod ((x4 * 1103515245) + 12345) 2147483648) 1024) x2) (Int.tmod (Int.tdiv (Int.tmod ((x4 * 1103515245) + 12345) 2147483648) 32768) x2)) fun q100_22 =>
      f_X6_draw_L46 x2 x3 k n (Int.tmod ((x4 * 1103515245) + 12345) 2147483648) (x6 + 1) q100_22.2
def f_X6_draw (N : Nat) (m : Bd) (x1 : Int) (x2 : Int) (x3 : Int) : Option (Int × Bd) :=
  bn (f_X6_in x1 0 999999) fun q4_1 =>
  jn (
      bn (f_X6_refuses m (-2)) fun q30_2 =>
      some (q30_2.1, q30_2.2)) fun j27 =>
  ck1 q4_1 <|
  if q4_1 = 0 then
    j27
  else
    bn (f_X6_in x2 1 12) fun q14_5 =>
    ck1 q14_5 <|
    if q14_5 = 0 then
      j27
    else
      bn (f_X6_isName x3) fun q21_8 =>
      ck1 q21_8 <|
      if q21_8 ≠ 0 then
        ck1 x1 <|
        f_X6_draw_L46 x2 x3 (fun (m_46 : Bd) =>
            bn (f_X6_gives N m_46 0 x3) fun q113_23 =>
            some (q113_23.1, q113_23.2)) N x1 0 (bs0 m 10 0)
      else
        j27
def f_X6_back_L26  (k : Bd → Option (Int × Bd)) : Nat → Int → Bd → Option (Int × Bd)
  | 0, _, _ => none
  | n + 1, x1, m1 =>
    ck1 x1 <|
    if 320 ≤ x1 then
      k m1
    else
      ckA ((320 * (m1 4 0)) + x1) 2560 <|
      ckA x1 320 <|
      f_X6_back_L26 k n (x1 + 1) (bS m1 1 (aS (m1 1) x1 (m1 2 ((320 * (m1 4 0)) + x1))))
def f_X6_back_L62  (k : Bd → Option (Int × Bd)) : Nat → Int → Bd → Option (Int × Bd)
  | 0, _, _ => none
  | n + 1, x1, m1 =>
    ck1 x1 <|
    if 8 ≤ x1 then
      k m1
    else
      ckA ((8 * (m1 4 0)) + x1) 64 <|
      ckA x1 8 <|
      f_X6_back_L62 k n (x1 + 1) (bS m1 0 (aS (m1 0) x1 (m1 3 ((8 * (m1 4 0)) + x1))))
def f_X6_back (N : Nat) (m : Bd) : Option (Int × Bd) :=
  ck1 (m 4 0) <|
  if (m 4 0) ≠ 0 then
    f_X6_back_L26  (fun (m_26 : Bd) =>
        f_X6_back_L62  (fun (m_62 : Bd) =>
            some (m_62 4 0, m_62)) N 0 m_26) N 0 (bs0 m 4 ((m 4 0) - 1))
  else
    bn (f_X6_refuses m (-3)) fun q10_11 =>
    some (q10_11.1, q10_11.2)
def f_X6_toldOf_L64 (m : Bd) (k : Int → Option (Int)) : Nat → Int → Int → Option (Int)
  | 0, _, _ => none
  | n + 1, x2, x3 =>
    ck1 x3 <|
    if 8 ≤ x3 then
      k x2
    else
      ckA x3 8 <|
      ck1 (m 0 x3) <|
      if (m 0 x3) ≤ 0 then
        f_X6_toldOf_L64 m k n (i_or x2 0) (x3 + 1)
      else
        f_X6_toldOf_L64 m k n (i_or x2 (i_shl 1 x3)) (x3 + 1)
def f_X6_toldOf (N : Nat) (m : Bd) (x1 : Int) : Option (Int) :=
  ck1 x1 <|
  if x1 = 0 then
    ckA x1 3 <|
    some (m 5 x1)
  else
  if x1 = 1 then
    ckA x1 3 <|
    some (m 5 x1)
  else
  if x1 = 2 then
    ckA x1 3 <|
    some (m 5 x1)
  else
  if x1 = 3 then
    some (m 4 0)
  else
  if x1 = 4 then
    some (m 8 0)
  else
  if x1 = 5 then
    some (m 6 0)
  else
    f_X6_toldOf_L64 m (fun (x2_64 : Int) =>
        some (x2_64)) N 0 0
def f_X6_told (N : Nat) (m : Bd) (x1 : Int) : Option (Int × Bd) :=
  bn (f_X6_in x1 0 6) fun q4_1 =>
  ck1 q4_1 <|
  if q4_1 = 0 then
    bn (f_X6_refuses m (-2)) fun q21_4 =>
    some (q21_4.1, q21_4.2)
  else
    bn (f_X6_toldOf N m x1) fun q12_5 =>
    some (q12_5, m)
def f_X6_digest_L6 (N : Nat) (m : Bd) (k : Int → Option (Int)) : Nat → Int → Int → Option (Int)
  | 0, _, _ => none
  | n + 1, x1, x3 =>
    ck1 x3 <|
    if 7 ≤ x3 then
      k x1
    else
      bn (f_X6_toldOf N m x3) fun q19_3 =>
      ck1 q19_3 <|
      f_X6_digest_L6 N m k n ((31 * x1) + q19_3) (x3 + 1)
def f_X6_digest_L33 (N : Nat) (m : Bd) (k : Int → Option (Int)) : Nat → Int → Int → Option (Int)
  | 0, _, _ => none
  | n + 1, x1, x3 =>
    ck1 x3 <|
    if 8 ≤ x3 then
      k x1
    else
      ckA x3 8 <|
      ck1 (m 0 x3) <|
      if (m 0 x3) ≤ 0 then
        f_X6_digest_L33 N m k n ((31 * x1) + 0) (x3 + 1)
      else
        bn (f_X6_codeOf N m x3) fun q55_10 =>
        f_X6_digest_L33 N m k n ((31 * x1) + q55_10) (x3 + 1)
def f_X6_digest (N : Nat) (m : Bd) : Option (Int) :=
  f_X6_digest_L6 N m (fun (x1_6 : Int) =>
      f_X6_digest_L33 N m (fun (x1_33 : Int) =>
          some (x1_33)) N x1_6 0) N 1901 0
def f_X5_refuseBad (lt : Bd) : Option (Int × Bd) :=
  some ((-2), (bs0 lt 8 ((lt 8 0) + 1)))
def f_X5_refuseFull (lt : Bd) : Option (Int × Bd) :=
  some ((-4), (bs0 lt 10 ((lt 10 0) + 1)))
def f_X5_type (lt : Bd) (x1 : Int) : Option (Int × Bd) :=
  jn (
      bn (f_X5_refuseBad lt) fun q11_1 =>
      some (q11_1.1, q11_1.2)) fun j10 =>
  ck1 x1 <|
  if x1 < 0 then
    j10
  else
    if x1 ≤ 127 then
      ck1 (lt 1 0) <|
      if (lt 1 0) < 120 then
        ckA (lt 1 0) 120 <|
        some ((lt 1 0) + 1, (bs0 (bS lt 0 (aS (lt 0) (lt 1 0) x1)) 1 ((lt 1 0) + 1)))
      else
        bn (f_X5_refuseFull lt) fun q25_8 =>
        some (q25_8.1, q25_8.2)
    else
      j10
def f_X5_clear (lt : Bd) : Option (Int × Bd) :=
  some (lt 1 0, (bs0 lt 1 0))
def f_X5_keepVersion_L2 (P : PL) (k : Bd → Option (Bd)) : Nat → Int → Bd → Option (Bd)
  | 0, _, _ => none
  | n + 1, x1, lt1 =>
    ck1 x1 <|
    if 8 ≤ x1 then
      k lt1
    else
      ckA x1 8 <|
      ckA (((lt1 6 0) * 8) + x1) 64 <|
      ckN (lt1 3 x1) P <|
      f_X5_keepVersion_L2 P k n (x1 + 1) (bS lt1 5 (aS (lt1 5) (((lt1 6 0) * 8) + x1) (lt1 3 x1)))
def f_X5_keepVersion (N : Nat) (lt : Bd) (P : PL) : Option (Bd) :=
  f_X5_keepVersion_L2 P (fun (lt_2 : Bd) =>
      jn (fun (s1_56 : Int) =>
          ck1 ((lt_2 7 0) + 1) <|
          some ((bs0 (bs0 lt_2 6 s1_56) 7 (min 8 ((lt_2 7 0) + 1))))) fun j56 =>
      ck1 ((lt_2 6 0) + 1) <|
      if ((lt_2 6 0) + 1) ≠ 8 then
        j56 ((lt_2 6 0) + 1)
      else
        j56 0) N 0 lt
def f_X5_read_L55 (N : Nat) (rd1 : Bd) (x2 : Int) (k : Bd → Bd → PL → Option (Int × Bd × Bd × Bd × PL)) : Nat → Int → Bd → Bd → PL → Option (Int × Bd × Bd × Bd × PL)
  | 0, _, _, _, _ => none
  | n + 1, x3, lt1, b1, P1 =>
    ck1 x3 <|
    ck1 x2 <|
    if x2 ≤ x3 then
      k lt1 b1 P1
    else
      bn (f_X4_rootOf N rd1 x3) fun q74_9 =>
      ckA x3 8 <|
      bn (f_X0_smallest N b1 P1 q74_9) fun q77_11 =>
      ckN q77_11.1 q77_11.2.2 <|
      if ((aS (lt1 4) x3 q77_11.1) x3) < 0 then
        bn (f_X5_refuseFull (bS lt1 4 (aS (lt1 4) x3 q77_11.1))) fun q91_14 =>
        some (q91_14.1, q91_14.2, q77_11.2.1, rd1, q77_11.2.2)
      else
        f_X5_read_L55 N rd1 x2 k n (x3 + 1) (bS lt1 4 (aS (lt1 4) x3 q77_11.1)) q77_11.2.1 q77_11.2.2
def f_X5_read_L107 (rd1 : Bd) (P1 : PL) (x2 : Int) (k : Bd → Option (Int × Bd × Bd × Bd × PL)) : Nat → Int → Bd → Option (Int × Bd × Bd × Bd × PL)
  | 0, _, _ => none
  | n + 1, x3, lt1 =>
    ck1 x3 <|
    ck1 x2 <|
    if x2 ≤ x3 then
      k lt1
    else
      bn (f_X4_letterOf rd1 x3) fun q121_19 =>
      ckA x3 8 <|
      ckA q121_19 8 <|
      ckN (lt1 4 x3) P1 <|
      f_X5_read_L107 rd1 P1 x2 k n (x3 + 1) (bS lt1 3 (aS (lt1 3) q121_19 (lt1 4 x3)))
def f_X5_read (N : Nat) (lt : Bd) (b : Bd) (rd : Bd) (P : PL) : Option (Int × Bd × Bd × Bd × PL) :=
  bn (f_X4_faultOf N lt rd (lt 1 0)) fun q16_1 =>
  ck1 q16_1.1 <|
  if q16_1.1 = (-1) then
    bn (f_X4_layOut N lt b q16_1.2 P) fun q42_4 =>
    bn (f_X4_equationCount q42_4.2) fun q49_5 =>
    f_X5_read_L55 N q42_4.2 q49_5 (fun (lt_55 : Bd) (b_55 : Bd) (P_55 : PL) =>
        bn (f_X5_keepVersion N lt_55 P_55) fun q102_15 =>
        f_X5_read_L107 q42_4.2 P_55 q49_5 (fun (lt_107 : Bd) =>
            some (q49_5, lt_107, b_55, q42_4.2, P_55)) N 0 q102_15) N 0 lt q42_4.1 P
  else
    some ((-10) - q16_1.1, lt, b, q16_1.2, P)
def f_X5_order (lt : Bd) (x1 : Int) : Option (Int × Bd) :=
  jn (
      bn (f_X5_refuseBad lt) fun q10_1 =>
      some (q10_1.1, q10_1.2)) fun j9 =>
  ck1 x1 <|
  if x1 < 0 then
    j9
  else
    if x1 ≤ 4 then
      some (lt 2 0, (bs0 lt 2 x1))
    else
      j9
def f_X5_isName (x0 : Int) : Option (Int) :=
  ck1 x0 <|
  if x0 < 0 then
    some (0)
  else
    if 8 ≤ x0 then
      some (0)
    else
      some (1)
def f_X5_graphOf (lt : Bd) (x1 : Int) : Option (Int) :=
  bn (f_X5_isName x1) fun q1_1 =>
  ck1 q1_1 <|
  if q1_1 = 0 then
    some ((-1))
  else
    ckA x1 8 <|
    some (lt 3 x1)
def f_X5_under (N : Nat) (lt : Bd) (c : Bd) (P : PL) (x1 : Int) (x2 : Int) : Option (Int × Bd × Bd) :=
  bn (f_X5_graphOf lt x1) fun q2_1 =>
  bn (f_X5_graphOf lt x2) fun q8_2 =>
  jn (
      bn (f_X5_refuseBad lt) fun q23_3 =>
      some (q23_3.1, q23_3.2, c)) fun j22 =>
  if q2_1 < 0 then
    j22
  else
    if q8_2 < 0 then
      j22
    else
      bn (f_X1_firstFailing N c P q2_1 q8_2 (lt 2 0)) fun q38_6 =>
      ck1 q38_6.1 <|
      jn (fun (s_50 : Int) =>
          some (s_50, lt, q38_6.2)) fun j50 =>
      j50 (if q38_6.1 ≠ (-1) then 0 else 1)
def f_X5_alike (N : Nat) (lt : Bd) (P : PL) (x1 : Int) (x2 : Int) : Option (Int × Bd) :=
  bn (f_X5_graphOf lt x1) fun q2_1 =>
  bn (f_X5_graphOf lt x2) fun q8_2 =>
  jn (
      bn (f_X5_refuseBad lt) fun q23_3 =>
      some (q23_3.1, q23_3.2)) fun j22 =>
  if q2_1 < 0 then
    j22
  else
    if q8_2 < 0 then
      j22
    else
      ckG q2_1 P <|
      bn (f_X2_sameAs N P q2_1 q8_2) fun q30_7 =>
      ck1 q30_7 <|
      jn (fun (s_41 : Int) =>
          some (s_41, lt)) fun j41 =>
      j41 (if q30_7 = 0 then 0 else 1)
def f_X5_apart (N : Nat) (lt : Bd) (c : Bd) (P : PL) (x1 : Int) (x2 : Int) (x3 : Int) : Option (Int × Bd × Bd) :=
  bn (f_X5_graphOf lt x1) fun q2_1 =>
  bn (f_X5_graphOf lt x2) fun q9_2 =>
  jn (
      bn (f_X5_refuseBad lt) fun q30_3 =>
      some ((-10), q30_3.2, c)) fun j29 =>
  if q2_1 < 0 then
    j29
  else
    if q9_2 < 0 then
      j29
    else
      ck1 x3 <|
      if (-1) ≤ x3 then
        bn (f_X1_firstFailing N c P q2_1 q9_2 (lt 2 0)) fun q49_8 =>
        ck1 q49_8.1 <|
        if q49_8.1 ≠ (-1) then
          bn (f_X1_stepCount N q49_8.2 q49_8.1) fun q69_11 =>
          if x3 ≠ (-1) then
            ck1 q69_11 <|
            if x3 < q69_11 then
              bn (f_X1_lastStep N q49_8.2 q49_8.1 ((q69_11 - 1) - x3)) fun q105_15 =>
              some (q105_15, lt, q49_8.2)
            else
              some ((-5), lt, q49_8.2)
          else
            some (q69_11, lt, q49_8.2)
        else
          some ((-6), lt, q49_8.2)
      else
        j29
def f_X5_near (N : Nat) (lt : Bd) (c : Bd) (P : PL) (x1 : Int) (x2 : Int) (x3 : Int) : Option (Int × Bd × Bd) :=
  bn (f_X5_graphOf lt x1) fun q2_1 =>
  bn (f_X5_graphOf lt x2) fun q9_2 =>
  jn (
      bn (f_X5_refuseBad lt) fun q35_3 =>
      some (q35_3.1, q35_3.2, c)) fun j34 =>
  if q2_1 < 0 then
    j34
  else
    if q9_2 < 0 then
      j34
    else
      ck1 x3 <|
      if x3 < 0 then
        j34
      else
        if x3 ≤ 60 then
          bn (f_X1_sameDownTo N c P q2_1 q9_2 x3) fun q48_9 =>
          ck1 q48_9.1 <|
          jn (fun (s_59 : Int) =>
              some (s_59, lt, q48_9.2)) fun j59 =>
          j59 (if q48_9.1 = 0 then 0 else 1)
        else
          j34
def f_X5_shared (N : Nat) (lt : Bd) (ms : Bd) (P : PL) (x1 : Int) (x2 : Int) : Option (Int × Bd × Bd) :=
  bn (f_X5_graphOf lt x1) fun q2_1 =>
  bn (f_X5_graphOf lt x2) fun q8_2 =>
  jn (
      bn (f_X5_refuseBad lt) fun q23_3 =>
      some (q23_3.1, q23_3.2, ms)) fun j22 =>
  if q2_1 < 0 then
    j22
  else
    if q8_2 < 0 then
      j22
    else
      bn (f_X3_commonCount N ms P q2_1 q8_2) fun q34_6 =>
      some (q34_6.1, lt, q34_6.2)
def f_X5_way (N : Nat) (lt : Bd) (ms : Bd) (P : PL) (x1 : Int) (x2 : Int) : Option (Int × Bd × Bd) :=
  bn (f_X5_graphOf lt x1) fun q2_1 =>
  bn (f_X5_graphOf lt x2) fun q8_2 =>
  jn (
      bn (f_X5_refuseBad lt) fun q23_3 =>
      some (q23_3.1, q23_3.2, ms)) fun j22 =>
  if q2_1 < 0 then
    j22
  else
    if q8_2 < 0 then
      j22
    else
      bn (f_X3_placeOf N ms P q2_1 q8_2) fun q39_6 =>
      bn (f_X3_stepsTo N q39_6.2 P q2_1 q39_6.1) fun q42_7 =>
      some (q42_7.1, lt, q42_7.2)
def f_X5_size (lt : Bd) (P : PL) (x1 : Int) : Option (Int × Bd) :=
  bn (f_X5_graphOf lt x1) fun q2_1 =>
  if q2_1 < 0 then
    bn (f_X5_refuseBad lt) fun q11_3 =>
    some (q11_3.1, q11_3.2)
  else
    ckG q2_1 P <|
    some ((gP P q2_1).1, lt)
def f_X5_head (lt : Bd) (P : PL) (x1 : Int) : Option (Int × Bd) :=
  bn (f_X5_graphOf lt x1) fun q2_1 =>
  if q2_1 < 0 then
    bn (f_X5_refuseBad lt) fun q11_3 =>
    some (q11_3.1, q11_3.2)
  else
    ckG q2_1 P <|
    bn (f_X2_headAt P q2_1 0) fun q19_5 =>
    some (q19_5, lt)
def f_X5_code (N : Nat) (lt : Bd) (P : PL) (x1 : Int) : Option (Int × Bd) :=
  bn (f_X5_graphOf lt x1) fun q2_1 =>
  if q2_1 < 0 then
    bn (f_X5_refuseBad lt) fun q11_3 =>
    ck1 q11_3.1 <|
    some (q11_3.1, q11_3.2)
  else
    ckG q2_1 P <|
    bn (f_X2_codeOf N P q2_1) fun q19_6 =>
    some (q19_6, lt)
def f_X5_deep (N : Nat) (lt : Bd) (ms : Bd) (P : PL) (x1 : Int) : Option (Int × Bd × Bd) :=
  bn (f_X5_graphOf lt x1) fun q2_1 =>
  if q2_1 < 0 then
    bn (f_X5_refuseBad lt) fun q11_3 =>
    some (q11_3.1, q11_3.2, ms)
  else
    bn (f_X3_longestWay N ms P q2_1) fun q22_4 =>
    some (q22_4.1, lt, q22_4.2)
def f_X5_heads (N : Nat) (lt : Bd) (ms : Bd) (P : PL) (x1 : Int) : Option (Int × Bd × Bd) :=
  bn (f_X5_graphOf lt x1) fun q2_1 =>
  if q2_1 < 0 then
    bn (f_X5_refuseBad lt) fun q11_3 =>
    some (q11_3.1, q11_3.2, ms)
  else
    bn (f_X3_treeHeads N ms P q2_1) fun q22_4 =>
    some (q22_4.1, lt, q22_4.2)
def f_X5_many (N : Nat) (lt : Bd) (P : PL) (x1 : Int) (x2 : Int) : Option (Int × Bd) :=
  bn (f_X5_graphOf lt x1) fun q2_1 =>
  jn (
      bn (f_X5_refuseBad lt) fun q21_2 =>
      some (q21_2.1, q21_2.2)) fun j20 =>
  if q2_1 < 0 then
    j20
  else
    ck1 x2 <|
    if x2 < 0 then
      j20
    else
      if x2 < 7 then
        ckG q2_1 P <|
        bn (f_X2_countOf N P q2_1 x2) fun q27_8 =>
        some (q27_8, lt)
      else
        j20
def f_X5_looping (N : Nat) (lt : Bd) (ms : Bd) (P : PL) (x1 : Int) : Option (Int × Bd × Bd) :=
  bn (f_X5_graphOf lt x1) fun q2_1 =>
  if q2_1 < 0 then
    bn (f_X5_refuseBad lt) fun q11_3 =>
    some (q11_3.1, q11_3.2, ms)
  else
    bn (f_X3_loopCount N ms P q2_1) fun q22_4 =>
    some (q22_4.1, lt, q22_4.2)
def f_X5_filled (N : Nat) (lt : Bd) (ms : Bd) (P : PL) (x1 : Int) : Option (Int × Bd × Bd) :=
  bn (f_X5_graphOf lt x1) fun q2_1 =>
  if q2_1 < 0 then
    bn (f_X5_refuseBad lt) fun q11_3 =>
    some (q11_3.1, q11_3.2, ms)
  else
    bn (f_X3_leastValue N ms P q2_1) fun q20_4 =>
    ck1 q20_4.1 <|
    jn (fun (s_32 : Int) =>
        some (s_32, lt, q20_4.2)) fun j32 =>
    j32 (if q20_4.1 ≠ (-1) then 1 else 0)
def f_X5_least (N : Nat) (lt : Bd) (ms : Bd) (P : PL) (x1 : Int) : Option (Int × Bd × Bd) :=
  bn (f_X5_graphOf lt x1) fun q2_1 =>
  if q2_1 < 0 then
    bn (f_X5_refuseBad lt) fun q11_3 =>
    some (q11_3.1, q11_3.2, ms)
  else
    bn (f_X3_leastValue N ms P q2_1) fun q22_4 =>
    some (q22_4.1, lt, q22_4.2)
def f_X5_signs (N : Nat) (lt : Bd) (ms : Bd) (P : PL) (x1 : Int) (x2 : Int) : Option (Int × Bd × Bd) :=
  bn (f_X5_graphOf lt x1) fun q2_1 =>
  bn (f_X5_graphOf lt x2) fun q8_2 =>
  jn (
      bn (f_X5_refuseBad lt) fun q23_3 =>
      some (q23_3.1, q23_3.2, ms)) fun j22 =>
  if q2_1 < 0 then
    j22
  else
    if q8_2 < 0 then
      j22
    else
      bn (f_X3_placeOf N ms P q2_1 q8_2) fun q39_6 =>
      bn (f_X3_signsAt N q39_6.2 P q2_1 q39_6.1) fun q42_7 =>
      some (q42_7.1, lt, q42_7.2)
def f_X5_give (N : Nat) (lt : Bd) (P : PL) (x1 : Int) (x2 : Int) : Option (Int × Bd) :=
  if x2 < 0 then
    bn (f_X5_refuseFull lt) fun q5_2 =>
    some (q5_2.1, q5_2.2)
  else
    bn (f_X5_keepVersion N lt P) fun q10_3 =>
    ckA x1 8 <|
    ckN x2 P <|
    ckG x2 P <|
    some ((gP P x2).1, (bS q10_3 3 (aS (q10_3 3) x1 x2)))
def f_X5_base (N : Nat) (lt : Bd) (b : Bd) (P : PL) (x1 : Int) (x2 : Int) : Option (Int × Bd × Bd × PL) :=
  jn (
      bn (f_X5_refuseBad lt) fun q17_1 =>
      some (q17_1.1, q17_1.2, b, P)) fun j16 =>
  ck1 x1 <|
  if x1 < 0 then
    j16
  else
    if 3 < x1 then
      j16
    else
      bn (f_X5_isName x2) fun q10_5 =>
      ck1 q10_5 <|
      if q10_5 ≠ 0 then
        bn (f_X0_start b) fun q25_8 =>
        bn (f_X0_put q25_8 x1 0 0) fun q41_9 =>
        bn (f_X0_smallest N q41_9.2 P q41_9.1) fun q44_10 =>
        bn (f_X5_give N lt q44_10.2.2 x2 q44_10.1) fun q47_11 =>
        some (q47_11.1, q47_11.2, q44_10.2.1, q44_10.2.2)
      else
        j16
def f_X5_make (N : Nat) (lt : Bd) (b : Bd) (P : PL) (x1 : Int) (x2 : Int) (x3 : Int) (x4 : Int) : Option (Int × Bd × Bd × PL) :=
  bn (f_X5_graphOf lt x2) fun q2_1 =>
  bn (f_X5_graphOf lt x3) fun q9_2 =>
  jn (
      bn (f_X5_refuseBad lt) fun q44_3 =>
      some (q44_3.1, q44_3.2, b, P)) fun j43 =>
  ck1 x1 <|
  if x1 < 4 then
    j43
  else
    if 6 < x1 then
      j43
    else
      if q2_1 < 0 then
        j43
      else
        if q9_2 < 0 then
          j43
        else
          bn (f_X5_isName x4) fun q37_9 =>
          ck1 q37_9 <|
          if q37_9 ≠ 0 then
            bn (f_X0_start b) fun q52_12 =>
            bn (f_X0_putAll N q52_12 P q2_1) fun q61_13 =>
            bn (f_X0_putAll N q61_13.2 P q9_2) fun q72_14 =>
            bn (f_X0_put q72_14.2 x1 q61_13.1 q72_14.1) fun q93_15 =>
            bn (f_X0_smallest N q93_15.2 P q93_15.1) fun q96_16 =>
            bn (f_X5_give N lt q96_16.2.2 x4 q96_16.1) fun q99_17 =>
            some (q99_17.1, q99_17.2, q96_16.2.1, q96_16.2.2)
          else
            j43
def f_X5_refuseNo (lt : Bd) : Option (Int × Bd) :=
  some ((-3), (bs0 lt 9 ((lt 9 0) + 1)))
def f_X5_part (N : Nat) (lt : Bd) (b : Bd) (P : PL) (x1 : Int) (x2 : Int) (x3 : Int) : Option (Int × Bd × Bd × PL) :=
  bn (f_X5_graphOf lt x1) fun q2_1 =>
  jn (
      bn (f_X5_refuseBad lt) fun q29_2 =>
      some (q29_2.1, q29_2.2, b, P)) fun j28 =>
  if q2_1 < 0 then
    j28
  else
    ck1 x2 <|
    if x2 < 0 then
      j28
    else
      if 1 < x2 then
        j28
      else
        bn (f_X5_isName x3) fun q22_7 =>
        ck1 q22_7 <|
        if q22_7 ≠ 0 then
          ckG q2_1 P <|
          bn (f_X2_partCount P q2_1 0) fun q37_11 =>
          ck1 q37_11 <|
          if x2 < q37_11 then
            bn (f_X0_start b) fun q52_14 =>
            bn (f_X0_putAll N q52_14 P q2_1) fun q61_15 =>
            bn (f_X2_partAt P q2_1 0 x2) fun q75_16 =>
            bn (f_X0_smallest N q61_15.2 P q75_16) fun q78_17 =>
            bn (f_X5_give N lt q78_17.2.2 x3 q78_17.1) fun q81_18 =>
            some (q81_18.1, q81_18.2, q78_17.2.1, q78_17.2.2)
          else
            bn (f_X5_refuseNo lt) fun q44_19 =>
            some (q44_19.1, q44_19.2, b, P)
        else
          j28
def f_X5_copy (N : Nat) (lt : Bd) (P : PL) (x1 : Int) (x2 : Int) : Option (Int × Bd) :=
  bn (f_X5_graphOf lt x1) fun q2_1 =>
  jn (
      bn (f_X5_refuseBad lt) fun q18_2 =>
      some (q18_2.1, q18_2.2)) fun j17 =>
  if q2_1 < 0 then
    j17
  else
    bn (f_X5_isName x2) fun q11_4 =>
    ck1 q11_4 <|
    if q11_4 ≠ 0 then
      bn (f_X5_give N lt P x2 q2_1) fun q25_7 =>
      some (q25_7.1, q25_7.2)
    else
      j17
def f_X5_bound (N : Nat) (lt : Bd) (b : Bd) (c : Bd) (P : PL) (x1 : Int) (x2 : Int) (x3 : Int) (x4 : Int) : Option (Int × Bd × Bd × Bd × PL) :=
  bn (f_X5_graphOf lt x2) fun q2_1 =>
  bn (f_X5_graphOf lt x3) fun q9_2 =>
  jn (
      bn (f_X5_refuseBad lt) fun q42_3 =>
      some (q42_3.1, q42_3.2, b, c, P)) fun j41 =>
  ck1 x1 <|
  if x1 < 0 then
    j41
  else
    if 1 < x1 then
      j41
    else
      if q2_1 < 0 then
        j41
      else
        if q9_2 < 0 then
          j41
        else
          bn (f_X5_isName x4) fun q35_9 =>
          ck1 q35_9 <|
          if q35_9 ≠ 0 then
            jn (fun (s5_67 : Int) =>
                bn (f_X1_boundOf N b c P q2_1 q9_2 s5_67) fun q71_12 =>
                bn (f_X5_give N lt q71_12.2.2.2 x4 q71_12.1) fun q74_13 =>
                some (q74_13.1, q74_13.2, q71_12.2.1, q71_12.2.2.1, q71_12.2.2.2)) fun j67 =>
            if x1 ≠ 1 then
              j67 0
            else
              j67 1
          else
            j41
def f_X5_swap (N : Nat) (lt : Bd) (b : Bd) (ms : Bd) (P : PL) (x1 : Int) (x2 : Int) (x3 : Int) (x4 : Int) : Option (Int × Bd × Bd × Bd × PL) :=
  bn (f_X5_graphOf lt x1) fun q2_1 =>
  bn (f_X5_graphOf lt x2) fun q9_2 =>
  bn (f_X5_graphOf lt x3) fun q16_3 =>
  jn (
      bn (f_X5_refuseBad lt) fun q45_4 =>
      some (q45_4.1, q45_4.2, b, ms, P)) fun j44 =>
  if q2_1 < 0 then
    j44
  else
    if q9_2 < 0 then
      j44
    else
      if q16_3 < 0 then
        j44
      else
        bn (f_X5_isName x4) fun q38_8 =>
        ck1 q38_8 <|
        if q38_8 ≠ 0 then
          bn (f_X3_placeOf N ms P q2_1 q9_2) fun q66_11 =>
          bn (f_X0_replaced N b P q2_1 q66_11.1 q16_3) fun q71_12 =>
          bn (f_X5_give N lt q71_12.2.2 x4 q71_12.1) fun q74_13 =>
          some (q74_13.1, q74_13.2, q71_12.2.1, q66_11.2, q71_12.2.2)
        else
          j44
def f_X5_cut (N : Nat) (lt : Bd) (b : Bd) (P : PL) (x1 : Int) (x2 : Int) (x3 : Int) : Option (Int × Bd × Bd × PL) :=
  bn (f_X5_graphOf lt x1) fun q2_1 =>
  jn (
      bn (f_X5_refuseBad lt) fun q30_2 =>
      some (q30_2.1, q30_2.2, b, P)) fun j29 =>
  if q2_1 < 0 then
    j29
  else
    ck1 x2 <|
    if x2 < 0 then
      j29
    else
      if 9 < x2 then
        j29
      else
        bn (f_X5_isName x3) fun q23_7 =>
        ck1 q23_7 <|
        if q23_7 ≠ 0 then
          bn (f_X0_cutOff N b P q2_1 x2) fun q43_10 =>
          bn (f_X5_give N lt q43_10.2.2 x3 q43_10.1) fun q46_11 =>
          some (q46_11.1, q46_11.2, q43_10.2.1, q43_10.2.2)
        else
          j29
def f_X5_turn (N : Nat) (lt : Bd) (b : Bd) (P : PL) (x1 : Int) (x2 : Int) (x3 : Int) : Option (Int × Bd × Bd × PL) :=
  bn (f_X5_graphOf lt x1) fun q2_1 =>
  jn (
      bn (f_X5_refuseBad lt) fun q31_2 =>
      some (q31_2.1, q31_2.2, b, P)) fun j30 =>
  if q2_1 < 0 then
    j30
  else
    ck1 x2 <|
    if x2 < 5 then
      j30
    else
      if 6 < x2 then
        j30
      else
        bn (f_X5_isName x3) fun q24_7 =>
        ck1 q24_7 <|
        if q24_7 ≠ 0 then
          bn (f_X0_turned N b P q2_1 x2) fun q44_10 =>
          bn (f_X5_give N lt q44_10.2.2 x3 q44_10.1) fun q47_11 =>
          some (q47_11.1, q47_11.2, q44_10.2.1, q44_10.2.2)
        else
          j30
def f_X5_draw (N : Nat) (lt : Bd) (b : Bd) (P : PL) (x1 : Int) (x2 : Int) (x3 : Int) : Option (Int × Bd × Bd × PL) :=
  jn (
      bn (f_X5_refuseBad lt) fun q29_1 =>
      some (q29_1.1, q29_1.2, b, P)) fun j28 =>
  ck1 x1 <|
  if x1 < 0 then
    j28
  else
    if 999999 < x1 then
      j28
    else
      ck1 x2 <|
      if x2 < 1 then
        j28
      else
        if 12 < x2 then
          j28
        else
          bn (f_X5_isName x3) fun q22_8 =>
          ck1 q22_8 <|
          if q22_8 ≠ 0 then
            bn (f_X0_drawn N b P x1 x2) fun q41_11 =>
            bn (f_X5_give N lt q41_11.2.2 x3 q41_11.1) fun q44_12 =>
            some (q44_12.1, q44_12.2, q41_11.2.1, q41_11.2.2)
          else
            j28
def f_X5_back_L46 (P : PL) (k : Bd → Option (Int × Bd)) : Nat → Int → Bd → Option (Int × Bd)
  | 0, _, _ => none
  | n + 1, x1, lt1 =>
    ck1 x1 <|
    if 8 ≤ x1 then
      k lt1
    else
      ckA (((lt1 6 0) * 8) + x1) 64 <|
      ckA x1 8 <|
      ckN (lt1 5 (((lt1 6 0) * 8) + x1)) P <|
      f_X5_back_L46 P k n (x1 + 1) (bS lt1 3 (aS (lt1 3) x1 (lt1 5 (((lt1 6 0) * 8) + x1))))
def f_X5_back (N : Nat) (lt : Bd) (P : PL) : Option (Int × Bd) :=
  ck1 (lt 7 0) <|
  if (lt 7 0) ≠ 0 then
    jn (fun (s1_31 : Int) =>
        f_X5_back_L46 P (fun (lt_46 : Bd) =>
            some (lt_46 7 0, lt_46)) N 0 (bs0 (bs0 lt 6 s1_31) 7 ((lt 7 0) - 1))) fun j31 =>
    ck1 (lt 6 0) <|
    if (lt 6 0) ≠ 0 then
      j31 ((lt 6 0) - 1)
    else
      j31 7
  else
    bn (f_X5_refuseNo lt) fun q8_10 =>
    some (q8_10.1, q8_10.2)
def f_X5_nameBits_L4 (lt : Bd) (k : Int → Option (Int)) : Nat → Int → Int → Option (Int)
  | 0, _, _ => none
  | n + 1, x1, x2 =>
    ck1 x2 <|
    if 8 ≤ x2 then
      k x1
    else
      ckA x2 8 <|
      if (lt 3 x2) < 0 then
        f_X5_nameBits_L4 lt k n x1 (x2 + 1)
      else
        f_X5_nameBits_L4 lt k n (i_or x1 (i_shl 1 x2)) (x2 + 1)
def f_X5_nameBits (N : Nat) (lt : Bd) : Option (Int) :=
  f_X5_nameBits_L4 lt (fun (x1_4 : Int) =>
      some (x1_4)) N 0 0
def f_X5_reportOf (N : Nat) (lt : Bd) (x1 : Int) : Option (Int) :=
  ck1 x1 <|
  if x1 = 0 then
    some (lt 8 0)
  else
  if x1 = 1 then
    some (lt 9 0)
  else
  if x1 = 2 then
    some (lt 10 0)
  else
  if x1 = 3 then
    some (lt 7 0)
  else
  if x1 = 4 then
    some (lt 1 0)
  else
  if x1 = 5 then
    some (lt 2 0)
  else
    bn (f_X5_nameBits N lt) fun q71_9 =>
    some (q71_9)
def f_X5_told (N : Nat) (lt : Bd) (x1 : Int) : Option (Int × Bd) :=
  jn (
      bn (f_X5_refuseBad lt) fun q11_1 =>
      some (q11_1.1, q11_1.2)) fun j10 =>
  ck1 x1 <|
  if x1 < 0 then
    j10
  else
    if x1 < 7 then
      bn (f_X5_reportOf N lt x1) fun q17_5 =>
      some (q17_5, lt)
    else
      j10
def f_X5_digest_L6 (N : Nat) (lt : Bd) (k : Int → Option (Int)) : Nat → Int → Int → Option (Int)
  | 0, _, _ => none
  | n + 1, x1, x3 =>
    ck1 x3 <|
    if 7 ≤ x3 then
      k x1
    else
      bn (f_X5_reportOf N lt x3) fun q19_3 =>
      ck1 q19_3 <|
      f_X5_digest_L6 N lt k n ((31 * x1) + q19_3) (x3 + 1)
def f_X5_digest_L33 (N : Nat) (lt : Bd) (P : PL) (k : Int → Option (Int)) : Nat → Int → Int → Option (Int)
  | 0, _, _ => none
  | n + 1, x1, x3 =>
    ck1 x3 <|
    if 8 ≤ x3 then
      k x1
    else
      ckA x3 8 <|
      if (lt 3 x3) < 0 then
        f_X5_digest_L33 N lt P k n ((31 * x1) + 0) (x3 + 1)
      else
        ckG (lt 3 x3) P <|
        bn (f_X2_codeOf N P (lt 3 x3)) fun q63_10 =>
        f_X5_digest_L33 N lt P k n ((31 * x1) + q63_10) (x3 + 1)
def f_X5_digest (N : Nat) (lt : Bd) (P : PL) : Option (Int) :=
  f_X5_digest_L6 N lt (fun (x1_6 : Int) =>
      f_X5_digest_L33 N lt P (fun (x1_33 : Int) =>
          some (x1_33)) N x1_6 0) N 1901 0
