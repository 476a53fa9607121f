theorem cb_6 : (Int8.ofInt (6)).toInt32 = 6 := by decide
theorem cb_7 : (Int8.ofInt (7)).toInt32 = 7 := by decide
theorem cb_8 : (Int8.ofInt (8)).toInt32 = 8 := by decide
theorem cb_10 : (Int8.ofInt (10)).toInt32 = 10 := by decide
theorem cb_11 : (Int8.ofInt (11)).toInt32 = 11 := by decide
theorem cb_12 : (Int8.ofInt (12)).toInt32 = 12 := by decide
theorem cb_13 : (Int8.ofInt (13)).toInt32 = 13 := by decide
theorem cb_16 : (Int8.ofInt (16)).toInt32 = 16 := by decide
theorem cb_20 : (Int8.ofInt (20)).toInt32 = 20 := by decide
theorem cb_30 : (Int8.ofInt (30)).toInt32 = 30 := by decide
theorem cb_31 : (Int8.ofInt (31)).toInt32 = 31 := by decide
theorem cb_32 : (Int8.ofInt (32)).toInt32 = 32 := by decide
theorem cb_40 : (Int8.ofInt (40)).toInt32 = 40 := by decide
theorem cb_41 : (Int8.ofInt (41)).toInt32 = 41 := by decide
theorem cb_48 : (Int8.ofInt (48)).toInt32 = 48 := by decide
theorem cb_57 : (Int8.ofInt (57)).toInt32 = 57 := by decide
theorem cb_59 : (Int8.ofInt (59)).toInt32 = 59 := by decide
theorem cb_60 : (Int8.ofInt (60)).toInt32 = 60 := by decide
theorem cb_61 : (Int8.ofInt (61)).toInt32 = 61 := by decide
theorem cb_63 : (Int8.ofInt (63)).toInt32 = 63 := by decide
theorem cb_81 : (Int8.ofInt (81)).toInt32 = 81 := by decide
theorem cb_89 : (Int8.ofInt (89)).toInt32 = 89 := by decide
theorem cb_96 : (Int8.ofInt (96)).toInt32 = 96 := by decide
theorem cb_97 : (Int8.ofInt (97)).toInt32 = 97 := by decide
theorem cb_99 : (Int8.ofInt (99)).toInt32 = 99 := by decide
theorem cb_100 : (Int8.ofInt (100)).toInt32 = 100 := by decide
theorem cb_101 : (Int8.ofInt (101)).toInt32 = 101 := by decide
theorem cb_120 : (Int8.ofInt (120)).toInt32 = 120 := by decide
theorem cb_122 : (Int8.ofInt (122)).toInt32 = 122 := by decide
theorem ci_m1 : Int32.ofInt (-1) = -1 := by decide
theorem ci_0 : Int32.ofInt (0) = 0 := by decide
theorem ci_1 : Int32.ofInt (1) = 1 := by decide
theorem ci_2 : Int32.ofInt (2) = 2 := by decide
theorem ci_3 : Int32.ofInt (3) = 3 := by decide
theorem ci_4 : Int32.ofInt (4) = 4 := by decide
theorem ci_5 : Int32.ofInt (5) = 5 := by decide
theorem cl_0 : Int64.ofNat ((0 : Fin 2) : Nat) = 0 := by decide
theorem cl_1 : Int64.ofNat ((1 : Fin 2) : Nat) = 1 := by decide
theorem cs_m3841 : (Int16.ofInt (-3841)).toInt32 = -3841 := by decide
theorem cs_255 : (Int16.ofInt (255)).toInt32 = 255 := by decide
theorem cs_999 : (Int16.ofInt (999)).toInt32 = 999 := by decide
theorem cs_1365 : (Int16.ofInt (1365)).toInt32 = 1365 := by decide
theorem cs_3840 : (Int16.ofInt (3840)).toInt32 = 3840 := by decide
theorem cs_4095 : (Int16.ofInt (4095)).toInt32 = 4095 := by decide
theorem cs_4096 : (Int16.ofInt (4096)).toInt32 = 4096 := by decide
theorem cs_4097 : (Int16.ofInt (4097)).toInt32 = 4097 := by decide
theorem cs_9999 : (Int16.ofInt (9999)).toInt32 = 9999 := by decide
theorem cs_12345 : (Int16.ofInt (12345)).toInt32 = 12345 := by decide
noncomputable def f_X0_become (r0 : Nat) (r1 : Nat) (M : Mem) : Option (Mem) :=
  letv (up M r0 0 (M r1 0)) fun M_1 =>
  ck (cpOK (0 : Int32) (0 : Int32) (8 : Int32) 8 8) <|
  letv (cpM M_1 (r1 + 1) (0 : Int32) (r0 + 1) (0 : Int32) (8 : Int32)) fun M_2 =>
  ck (cpOK (0 : Int32) (0 : Int32) (8 : Int32) 8 8) <|
  letv (cpM M_2 (r1 + 2) (0 : Int32) (r0 + 2) (0 : Int32) (8 : Int32)) fun M_4 =>
  ck (cpOK (0 : Int32) (0 : Int32) (8 : Int32) 8 8) <|
  letv (cpM M_4 (r1 + 3) (0 : Int32) (r0 + 3) (0 : Int32) (8 : Int32)) fun M_6 =>
  ck (cpOK (0 : Int32) (0 : Int32) (8 : Int32) 8 8) <|
  letv (cpM M_6 (r1 + 4) (0 : Int32) (r0 + 4) (0 : Int32) (8 : Int32)) fun M_8 =>
  ck (cpOK (0 : Int32) (0 : Int32) (8 : Int32) 8 8) <|
  letv (cpM M_8 (r1 + 5) (0 : Int32) (r0 + 5) (0 : Int32) (8 : Int32)) fun M_10 =>
  ck (cpOK (0 : Int32) (0 : Int32) (8 : Int32) 8 8) <|
  letv (cpM M_10 (r1 + 6) (0 : Int32) (r0 + 6) (0 : Int32) (8 : Int32)) fun M_12 =>
  some M_12
noncomputable def f_X0_has (r0 : Nat) (x1 : Int32) (M : Mem) : Option (Bool) :=
  if x1 < 0 then
    some false
  else
    if (M r0 0) ≤ x1 then
      some false
    else
      some true
noncomputable def f_X0_areTwo (r0 : Nat) (x1 : Int32) (x2 : Int32) (M : Mem) : Option (Bool) :=
  (f_X0_has r0 x1 M).bind fun r_1 =>
  if (b2i r_1) = 0 then
    some false
  else
    (f_X0_has r0 x2 M).bind fun r_2 =>
    if (b2i r_2) = 0 then
      some false
    else
      if x1 = x2 then
        some false
      else
        some true
noncomputable def f_X0_addOne (r0 : Nat) (x1 : Int32) (M : Mem) : Option (Int32 × Mem) :=
  if (M r0 0) < (8 : Int32) then
    letv (M r0 0) fun x2_1 =>
    letv (up M r0 0 ((M r0 0) + (1 : Int32))) fun M_2 =>
    ck (vp_in x2_1 8) <|
    letv (up M_2 (r0 + 1) (ix x2_1) (0 : Int32)) fun M_4 =>
    ck (vp_in x2_1 8) <|
    letv (up M_4 (r0 + 2) (ix x2_1) (0 : Int32)) fun M_6 =>
    ck (vp_in x2_1 8) <|
    letv (up M_6 (r0 + 3) (ix x2_1) x1) fun M_8 =>
    ck (vp_in x2_1 8) <|
    letv (up M_8 (r0 + 4) (ix x2_1) (100 : Int32)) fun M_10 =>
    ck (vp_in x2_1 8) <|
    letv (up M_10 (r0 + 5) (ix x2_1) (0 : Int32)) fun M_12 =>
    ck (vp_in x2_1 8) <|
    letv (up M_12 (r0 + 6) (ix x2_1) (0 : Int32)) fun M_14 =>
    some (x2_1, M_14)
  else
    some ((-1 : Int32), M)
noncomputable def f_X0_row (r0 : Nat) (x1 : Int32) (M : Mem) : Option ((Option Nat)) :=
  if x1 = (0 : Int32) then
    some (some (r0 + 1))
  else
    if x1 = (1 : Int32) then
      some (some (r0 + 2))
    else
      if x1 = (2 : Int32) then
        some (some (r0 + 3))
      else
        if x1 = (3 : Int32) then
          some (some (r0 + 4))
        else
          if x1 = (4 : Int32) then
            some (some (r0 + 5))
          else
            some none
noncomputable def f_X0_isTied (r0 : Nat) (x1 : Int32) (x2 : Int32) (M : Mem) : Option (Bool) :=
  ck (vp_in x1 8) <|
  if ((M (r0 + 6) (ix x1)) &&& ((1 : Int32) <<< (x2 &&& 31))) = 0 then
    some false
  else
    some true
noncomputable def f_X0_bind (r0 : Nat) (x1 : Int32) (x2 : Int32) (x3 : Int32) (M : Mem) : Option (Mem) :=
  if x3 = 0 then
    ck (vp_in x1 8) <|
    ck (vp_in x1 8) <|
    letv (up M (r0 + 6) (ix x1) ((M (r0 + 6) (ix x1)) &&& (((1 : Int32) <<< (x2 &&& 31)) ^^^ (-1 : Int32)))) fun M_3 =>
    ck (vp_in x2 8) <|
    ck (vp_in x2 8) <|
    letv (up M_3 (r0 + 6) (ix x2) ((M_3 (r0 + 6) (ix x2)) &&& (((1 : Int32) <<< (x1 &&& 31)) ^^^ (-1 : Int32)))) fun M_6 =>
    some M_6
  else
    ck (vp_in x1 8) <|
    ck (vp_in x1 8) <|
    letv (up M (r0 + 6) (ix x1) ((M (r0 + 6) (ix x1)) ||| ((1 : Int32) <<< (x2 &&& 31)))) fun M_9 =>
    ck (vp_in x2 8) <|
    ck (vp_in x2 8) <|
    letv (up M_9 (r0 + 6) (ix x2) ((M_9 (r0 + 6) (ix x2)) ||| ((1 : Int32) <<< (x1 &&& 31)))) fun M_12 =>
    some M_12
noncomputable def f_J6_bitCount_0f7a4 (x0 : Int32) (M : Mem) : Option (Int32) :=
  letv (x0 - (((Int32.toUInt32 x0 >>> (Int32.toUInt32 (1 : Int32) &&& Int32.toUInt32 31)).toInt32) &&& (1431655765 : Int32))) fun x0_1 =>
  letv ((x0_1 &&& (858993459 : Int32)) + (((Int32.toUInt32 x0_1 >>> (Int32.toUInt32 (2 : Int32) &&& Int32.toUInt32 31)).toInt32) &&& (858993459 : Int32))) fun x0_2 =>
  letv ((x0_2 + ((Int32.toUInt32 x0_2 >>> (Int32.toUInt32 (4 : Int32) &&& Int32.toUInt32 31)).toInt32)) &&& (252645135 : Int32)) fun x0_3 =>
  letv (x0_3 + ((Int32.toUInt32 x0_3 >>> (Int32.toUInt32 (8 : Int32) &&& Int32.toUInt32 31)).toInt32)) fun x0_4 =>
  letv (x0_4 + ((Int32.toUInt32 x0_4 >>> (Int32.toUInt32 (16 : Int32) &&& Int32.toUInt32 31)).toInt32)) fun x0_5 =>
  some (x0_5 &&& (63 : Int32))
noncomputable def f_X0_howManyTies_b4 (r0 : Nat) (k4 : Int32 → Int32 → Mem → Option (Int32)) (x1 : Int32) (x2 : Int32) (M : Mem) : Option (Int32) :=
  if (M r0 0) ≤ x2 then
    some (x1 / (2 : Int32))
  else
    ck (vp_in x2 8) <|
    (f_J6_bitCount_0f7a4 (M (r0 + 6) (ix x2)) M).bind fun r_2 =>
    letv (x1 + r_2) fun x1_3 =>
    k4 x1_3 (x2 + (1 : Int32)) M
noncomputable def f_X0_howManyTies_l4 (r0 : Nat) : Nat → Int32 → Int32 → Mem → Option (Int32) := lp (fun _ _ _ => none) (f_X0_howManyTies_b4 r0)
noncomputable def f_X0_howManyTies (r0 : Nat) (M : Mem) : Option (Int32) :=
  f_X0_howManyTies_l4 r0 FU (0 : Int32) (0 : Int32) M
noncomputable def f_X0_ownWords (r0 : Nat) (x1 : Int32) (M : Mem) : Option (Int32) :=
  ck (vp_in x1 8) <|
  ck (vp_in x1 8) <|
  some ((M (r0 + 1) (ix x1)) ||| (M (r0 + 2) (ix x1)))
noncomputable def f_X0_anyOf_b4 (r0 : Nat) (r1 : Nat) (k4 : Int32 → Int32 → Mem → Option (Int32)) (x2 : Int32) (x3 : Int32) (M : Mem) : Option (Int32) :=
  if (M r0 0) ≤ x3 then
    some x2
  else
    if (nI (aln r1)) ≤ x3 then
      some x2
    else
      ck (vp_in x3 (aln r1)) <|
      letv (x2 ||| (M r1 (ix x3))) fun x2_2 =>
      k4 x2_2 (x3 + (1 : Int32)) M
noncomputable def f_X0_anyOf_l4 (r0 : Nat) (r1 : Nat) : Nat → Int32 → Int32 → Mem → Option (Int32) := lp (fun _ _ _ => none) (f_X0_anyOf_b4 r0 r1)
noncomputable def f_X0_anyOf (r0 : Nat) (r1 : Nat) (M : Mem) : Option (Int32) :=
  f_X0_anyOf_l4 r0 r1 FU (0 : Int32) (0 : Int32) M
noncomputable def f_X0_believedByAll_b15 (r0 : Nat) (k15 : Int32 → Int32 → Mem → Option (Int32)) (x1 : Int32) (x2 : Int32) (M : Mem) : Option (Int32) :=
  if (M r0 0) ≤ x2 then
    some x1
  else
    ck (vp_in x2 8) <|
    letv (x1 &&& (M (r0 + 2) (ix x2))) fun x1_2 =>
    k15 x1_2 (x2 + (1 : Int32)) M
noncomputable def f_X0_believedByAll_l15 (r0 : Nat) : Nat → Int32 → Int32 → Mem → Option (Int32) := lp (fun _ _ _ => none) (f_X0_believedByAll_b15 r0)
noncomputable def f_X0_believedByAll (r0 : Nat) (M : Mem) : Option (Int32) :=
  if (M r0 0) = 0 then
    some (0 : Int32)
  else
    f_X0_believedByAll_l15 r0 FU (4095 : Int32) (0 : Int32) M
noncomputable def f_X0_believers_b4 (r0 : Nat) (k4 : Int32 → Int32 → Int32 → Mem → Option (Int32)) (x1 : Int32) (x2 : Int32) (x3 : Int32) (M : Mem) : Option (Int32) :=
  if (M r0 0) ≤ x3 then
    some x2
  else
    ck (vp_in x3 8) <|
    if ((M (r0 + 2) (ix x3)) &&& ((1 : Int32) <<< (x1 &&& 31))) = 0 then
      k4 x1 x2 (x3 + (1 : Int32)) M
    else
      letv (x2 ||| ((1 : Int32) <<< (x3 &&& 31))) fun x2_2 =>
      k4 x1 x2_2 (x3 + (1 : Int32)) M
noncomputable def f_X0_believers_l4 (r0 : Nat) : Nat → Int32 → Int32 → Int32 → Mem → Option (Int32) := lp (fun _ _ _ _ => none) (f_X0_believers_b4 r0)
noncomputable def f_X0_believers (r0 : Nat) (x1 : Int32) (M : Mem) : Option (Int32) :=
  f_X0_believers_l4 r0 FU x1 (0 : Int32) (0 : Int32) M
noncomputable def f_X0_lies (r0 : Nat) (x1 : Int32) (M : Mem) : Option (Int32) :=
  ck (vp_in x1 8) <|
  (f_X0_anyOf r0 (r0 + 1) M).bind fun r_2 =>
  some ((M (r0 + 2) (ix x1)) &&& (r_2 ^^^ (-1 : Int32)))
noncomputable def f_X0_howManyLies_b13 (r0 : Nat) (k13 : Int32 → Int32 → Int32 → Mem → Option (Int32)) (x1 : Int32) (x2 : Int32) (x3 : Int32) (M : Mem) : Option (Int32) :=
  if (M r0 0) ≤ x3 then
    some x2
  else
    ck (vp_in x3 8) <|
    (f_J6_bitCount_0f7a4 ((M (r0 + 2) (ix x3)) &&& (x1 ^^^ (-1 : Int32))) M).bind fun r_3 =>
    letv (x2 + r_3) fun x2_4 =>
    k13 x1 x2_4 (x3 + (1 : Int32)) M
noncomputable def f_X0_howManyLies_l13 (r0 : Nat) : Nat → Int32 → Int32 → Int32 → Mem → Option (Int32) := lp (fun _ _ _ _ => none) (f_X0_howManyLies_b13 r0)
noncomputable def f_X0_howManyLies (r0 : Nat) (M : Mem) : Option (Int32) :=
  (f_X0_anyOf r0 (r0 + 1) M).bind fun r_1 =>
  f_X0_howManyLies_l13 r0 FU r_1 (0 : Int32) (0 : Int32) M
noncomputable def f_X0_howManyLettered_b4 (r0 : Nat) (k4 : Int32 → Int32 → Mem → Option (Int32)) (x1 : Int32) (x2 : Int32) (M : Mem) : Option (Int32) :=
  if (M r0 0) ≤ x2 then
    some x1
  else
    ck (vp_in x2 8) <|
    letv (x1 + (M (r0 + 5) (ix x2))) fun x1_2 =>
    k4 x1_2 (x2 + (1 : Int32)) M
noncomputable def f_X0_howManyLettered_l4 (r0 : Nat) : Nat → Int32 → Int32 → Mem → Option (Int32) := lp (fun _ _ _ => none) (f_X0_howManyLettered_b4 r0)
noncomputable def f_X0_howManyLettered (r0 : Nat) (M : Mem) : Option (Int32) :=
  f_X0_howManyLettered_l4 r0 FU (0 : Int32) (0 : Int32) M
noncomputable def f_X0_allPence_b4 (r0 : Nat) (k4 : Int32 → Int32 → Mem → Option (Int32)) (x1 : Int32) (x2 : Int32) (M : Mem) : Option (Int32) :=
  if (M r0 0) ≤ x2 then
    some x1
  else
    ck (vp_in x2 8) <|
    letv (x1 + (M (r0 + 4) (ix x2))) fun x1_2 =>
    k4 x1_2 (x2 + (1 : Int32)) M
noncomputable def f_X0_allPence_l4 (r0 : Nat) : Nat → Int32 → Int32 → Mem → Option (Int32) := lp (fun _ _ _ => none) (f_X0_allPence_b4 r0)
noncomputable def f_X0_allPence (r0 : Nat) (M : Mem) : Option (Int32) :=
  f_X0_allPence_l4 r0 FU (0 : Int32) (0 : Int32) M
noncomputable def f_X1_isMissing (x1 : Int32) (M : Mem) : Option (Bool) :=
  ck (vp_in x1 4) <|
  if (M 53 (ix x1)) = 0 then
    some true
  else
    some false
noncomputable def f_X1_lay_b25 (k25 : Int32 → Int32 → Mem → Option (Int32 × Mem)) (x1 : Int32) (x4 : Int32) (M : Mem) : Option (Int32 × Mem) :=
  if (40 : Int32) ≤ x4 then
    ck (vp_in x1 4) <|
    some (M 54 (ix x1), M)
  else
    ck (vp_in ((x1 * (40 : Int32)) + x4) 160) <|
    letv (up M 55 (ix ((x1 * (40 : Int32)) + x4)) (0 : Int32)) fun M_9 =>
    k25 x1 (x4 + (1 : Int32)) M_9
noncomputable def f_X1_lay_l25 : Nat → Int32 → Int32 → Mem → Option (Int32 × Mem) := lp (fun _ _ _ => none) (f_X1_lay_b25)
noncomputable def f_X1_lay (x1 : Int32) (x2 : Int32) (x3 : Int32) (M : Mem) : Option (Int32 × Mem) :=
  ck (vp_in x1 4) <|
  letv (up M 53 (ix x1) x2) fun M_2 =>
  if x2 = 0 then
    ck (vp_in x1 4) <|
    letv (up M_2 54 (ix x1) (0 : Int32)) fun M_6 =>
    f_X1_lay_l25 FU x1 (0 : Int32) M_6
  else
    ck (vp_in x1 4) <|
    letv (up M_2 54 (ix x1) x3) fun M_4 =>
    f_X1_lay_l25 FU x1 (0 : Int32) M_4
noncomputable def f_X1_number (x1 : Int32) (x2 : Int32) (M : Mem) : Option (Int32) :=
  ck (vp_in ((x1 * (40 : Int32)) + x2) 160) <|
  some (M 55 (ix ((x1 * (40 : Int32)) + x2)))
noncomputable def f_X1_note_j18 (x1 : Int32) (x2 : Int32) (x3 : Int32) (x4 : Int32) (M : Mem) : Option (Mem) :=
  ck (vp_in x1 4) <|
  if (M 53 (ix x1)) = (16 : Int32) then
    letv ((Int32.toInt16 x3).toInt32) fun x4_6 =>
    ck (vp_in ((x1 * (40 : Int32)) + x2) 160) <|
    letv (up M 55 (ix ((x1 * (40 : Int32)) + x2)) x4_6) fun M_8 =>
    some M_8
  else
    ck (vp_in ((x1 * (40 : Int32)) + x2) 160) <|
    letv (up M 55 (ix ((x1 * (40 : Int32)) + x2)) x4) fun M_5 =>
    some M_5
noncomputable def f_X1_note (x1 : Int32) (x2 : Int32) (x3 : Int32) (M : Mem) : Option (Mem) :=
  ck (vp_in x1 4) <|
  if (M 53 (ix x1)) = (8 : Int32) then
    letv ((Int32.toInt8 x3).toInt32) fun x4_2 =>
    f_X1_note_j18 x1 x2 x3 x4_2 M
  else
    f_X1_note_j18 x1 x2 x3 x3 M
noncomputable def f_X1_hasFrom (x1 : Int32) (x2 : Int32) (x3 : Int32) (M : Mem) : Option (Bool) :=
  if x2 < 0 then
    some false
  else
    if x3 < 0 then
      some false
    else
      ck (vp_in x1 4) <|
      if (M 54 (ix x1)) < x3 then
        some false
      else
        ck (vp_in x1 4) <|
        if ((M 54 (ix x1)) - x3) < x2 then
          some false
        else
          some true
noncomputable def f_X1_move (x1 : Int32) (x2 : Int32) (x3 : Int32) (x4 : Int32) (x5 : Int32) (M : Mem) : Option (Mem) :=
  ck (cpOK ((x1 * (40 : Int32)) + x2) ((x3 * (40 : Int32)) + x4) x5 160 160) <|
  letv (cpM M 55 ((x1 * (40 : Int32)) + x2) 55 ((x3 * (40 : Int32)) + x4) x5) fun M_1 =>
  some M_1
noncomputable def f_X5_addOne (r0 : Nat) (x1 : Int32) (M : Mem) : Option (Int32 × Mem) :=
  if (M r0 0) < (6 : Int32) then
    letv (M r0 0) fun x2_1 =>
    letv (up M r0 0 ((M r0 0) + (1 : Int32))) fun M_2 =>
    ck (vp_in x2_1 6) <|
    letv (up M_2 (r0 + 1) (ix x2_1) x1) fun M_4 =>
    ck (vp_in x2_1 6) <|
    letv (up M_4 (r0 + 2) (ix x2_1) (0 : Int32)) fun M_6 =>
    ck (vp_in x2_1 6) <|
    letv (up M_6 (r0 + 3) (ix x2_1) (0 : Int32)) fun M_8 =>
    ck (vp_in x2_1 6) <|
    letv (up M_8 (r0 + 4) (ix x2_1) (0 : Int32)) fun M_10 =>
    ck (vp_in x2_1 6) <|
    letv (up M_10 (r0 + 5) (ix x2_1) (4 : Int32)) fun M_12 =>
    ck (vp_in x2_1 6) <|
    letv (up M_12 (r0 + 6) (ix x2_1) (0 : Int32)) fun M_14 =>
    some (x2_1, M_14)
  else
    some ((-1 : Int32), M)
noncomputable def f_X5_become (r0 : Nat) (r1 : Nat) (M : Mem) : Option (Mem) :=
  letv (up M r0 0 (M r1 0)) fun M_1 =>
  ck (cpOK (0 : Int32) (0 : Int32) (6 : Int32) 6 6) <|
  letv (cpM M_1 (r1 + 1) (0 : Int32) (r0 + 1) (0 : Int32) (6 : Int32)) fun M_2 =>
  ck (cpOK (0 : Int32) (0 : Int32) (6 : Int32) 6 6) <|
  letv (cpM M_2 (r1 + 2) (0 : Int32) (r0 + 2) (0 : Int32) (6 : Int32)) fun M_4 =>
  ck (cpOK (0 : Int32) (0 : Int32) (6 : Int32) 6 6) <|
  letv (cpM M_4 (r1 + 3) (0 : Int32) (r0 + 3) (0 : Int32) (6 : Int32)) fun M_6 =>
  ck (cpOK (0 : Int32) (0 : Int32) (6 : Int32) 6 6) <|
  letv (cpM M_6 (r1 + 4) (0 : Int32) (r0 + 4) (0 : Int32) (6 : Int32)) fun M_8 =>
  ck (cpOK (0 : Int32) (0 : Int32) (6 : Int32) 6 6) <|
  letv (cpM M_8 (r1 + 5) (0 : Int32) (r0 + 5) (0 : Int32) (6 : Int32)) fun M_10 =>
  ck (cpOK (0 : Int32) (0 : Int32) (6 : Int32) 6 6) <|
  letv (cpM M_10 (r1 + 6) (0 : Int32) (r0 + 6) (0 : Int32) (6 : Int32)) fun M_12 =>
  some M_12
noncomputable def f_X5_has (r0 : Nat) (x1 : Int32) (M : Mem) : Option (Bool) :=
  if x1 < 0 then
    some false
  else
    if (M r0 0) ≤ x1 then
      some false
    else
      some true
noncomputable def f_X5_least_b4 (k4 : Int32 → Int32 → Int32 → Int32 → Mem → Option (Int32)) (x0 : Int32) (x1 : Int32) (x2 : Int32) (x3 : Int32) (M : Mem) : Option (Int32) :=
  if x1 ≤ x3 then
    some (x0 &&& (x2 ^^^ (-1 : Int32)))
  else
    letv (x2 &&& (x2 - (1 : Int32))) fun x2_1 =>
    k4 x0 x1 x2_1 (x3 + (1 : Int32)) M
noncomputable def f_X5_least_l4 : Nat → Int32 → Int32 → Int32 → Int32 → Mem → Option (Int32) := lp (fun _ _ _ _ _ => none) (f_X5_least_b4)
noncomputable def f_X5_least (x0 : Int32) (x1 : Int32) (M : Mem) : Option (Int32) :=
  f_X5_least_l4 FU x0 x1 x0 (0 : Int32) M
noncomputable def f_X5_plain (r0 : Nat) (x1 : Int32) (x2 : Int32) (M : Mem) : Option (Int32) :=
  ck (vp_in x1 6) <|
  letv (x2 &&& ((M (r0 + 2) (ix x1)) ^^^ (-1 : Int32))) fun x3_2 =>
  ck (vp_in x1 6) <|
  if (x2 &&& (M (r0 + 4) (ix x1))) = 0 then
    some x3_2
  else
    ck (vp_in x1 6) <|
    some (x3_2 ||| (M (r0 + 3) (ix x1)))
noncomputable def f_X5_softened (x0 : Int32) (M : Mem) : Option (Int32) :=
  some ((x0 &&& (-3841 : Int32)) ||| ((x0 &&& (3840 : Int32)) >>> ((4 : Int32) &&& 31)))
noncomputable def f_X5_make (r0 : Nat) (x1 : Int32) (x2 : Int32) (M : Mem) : Option (Int32) :=
  (f_X5_has r0 x1 M).bind fun r_1 =>
  if (b2i r_1) = 0 then
    some x2
  else
    ck (vp_in x1 6) <|
    if (M (r0 + 1) (ix x1)) = (1 : Int32) then
      (f_X5_plain r0 x1 x2 M).bind fun r_3 =>
      (f_X5_softened r_3 M).bind fun r_4 =>
      some r_4
    else
      if (M (r0 + 1) (ix x1)) = (2 : Int32) then
        (f_X5_plain r0 x1 x2 M).bind fun r_5 =>
        (f_X5_least r_5 (4 : Int32) M).bind fun r_6 =>
        some r_6
      else
        if (M (r0 + 1) (ix x1)) = (3 : Int32) then
          (f_X5_plain r0 x1 x2 M).bind fun r_7 =>
          (f_X5_softened r_7 M).bind fun r_8 =>
          ck (vp_in x1 6) <|
          some (r_8 ||| (M (r0 + 3) (ix x1)))
        else
          if (M (r0 + 1) (ix x1)) = (4 : Int32) then
            (f_X5_plain r0 x1 x2 M).bind fun r_10 =>
            (f_X5_least r_10 (4 : Int32) M).bind fun r_11 =>
            some (r_11 ||| (1 : Int32))
          else
            if (M (r0 + 1) (ix x1)) = (5 : Int32) then
              (f_X5_plain r0 x1 (x2 &&& (1365 : Int32)) M).bind fun r_12 =>
              some r_12
            else
              if (M (r0 + 1) (ix x1)) = (6 : Int32) then
                (f_X5_plain r0 x1 x2 M).bind fun r_13 =>
                (f_X5_least r_13 (2 : Int32) M).bind fun r_14 =>
                some r_14
              else
                (f_X5_plain r0 x1 x2 M).bind fun r_15 =>
                some r_15
noncomputable def f_X5_row (r0 : Nat) (x1 : Int32) (M : Mem) : Option ((Option Nat)) :=
  if x1 = (0 : Int32) then
    some (some (r0 + 1))
  else
    if x1 = (1 : Int32) then
      some (some (r0 + 2))
    else
      if x1 = (2 : Int32) then
        some (some (r0 + 3))
      else
        if x1 = (3 : Int32) then
          some (some (r0 + 4))
        else
          if x1 = (4 : Int32) then
            some (some (r0 + 5))
          else
            if x1 = (5 : Int32) then
              some (some (r0 + 6))
            else
              some none
noncomputable def f_X5_onceRound_b4 (r0 : Nat) (k4 : Int32 → Int32 → Mem → Option (Int32)) (x2 : Int32) (x3 : Int32) (M : Mem) : Option (Int32) :=
  if (M r0 0) ≤ x3 then
    some x2
  else
    (f_X5_make r0 x3 x2 M).bind fun r_1 =>
    k4 r_1 (x3 + (1 : Int32)) M
noncomputable def f_X5_onceRound_l4 (r0 : Nat) : Nat → Int32 → Int32 → Mem → Option (Int32) := lp (fun _ _ _ => none) (f_X5_onceRound_b4 r0)
noncomputable def f_X5_onceRound (r0 : Nat) (x1 : Int32) (M : Mem) : Option (Int32) :=
  f_X5_onceRound_l4 r0 FU x1 (0 : Int32) M
noncomputable def f_X5_waysTo_b5 (r0 : Nat) (k5 : Int32 → Int32 → Int32 → Int32 → Mem → Option (Int32)) (x1 : Int32) (x2 : Int32) (x3 : Int32) (x4 : Int32) (M : Mem) : Option (Int32) :=
  if (4096 : Int32) ≤ x4 then
    some x3
  else
    (f_X5_make r0 x1 x4 M).bind fun r_1 =>
    if r_1 = x2 then
      k5 x1 x2 (x3 + (1 : Int32)) (x4 + (1 : Int32)) M
    else
      k5 x1 x2 x3 (x4 + (1 : Int32)) M
noncomputable def f_X5_waysTo_l5 (r0 : Nat) : Nat → Int32 → Int32 → Int32 → Int32 → Mem → Option (Int32) := lp (fun _ _ _ _ _ => none) (f_X5_waysTo_b5 r0)
noncomputable def f_X5_waysTo (r0 : Nat) (x1 : Int32) (x2 : Int32) (M : Mem) : Option (Int32) :=
  f_X5_waysTo_l5 r0 FU x1 x2 (0 : Int32) (0 : Int32) M
noncomputable def f_J7_fill_53178_b5 (r0 : Nat) (k5 : Int32 → Int32 → Int32 → Mem → Option (Mem)) (x1 : Int32) (x2 : Int32) (x3 : Int32) (M : Mem) : Option (Mem) :=
  if x3 ≤ x2 then
    some M
  else
    ck (vp_in x2 (aln r0)) <|
    letv (up M r0 (ix x2) x1) fun M_3 =>
    k5 x1 (x2 + (1 : Int32)) x3 M_3
noncomputable def f_J7_fill_53178_l5 (r0 : Nat) : Nat → Int32 → Int32 → Int32 → Mem → Option (Mem) := lp (fun _ _ _ _ => none) (f_J7_fill_53178_b5 r0)
noncomputable def f_J7_fill_53178 (r0 : Nat) (x1 : Int32) (M : Mem) : Option (Mem) :=
  letv (nI (aln r0)) fun x3_1 =>
  f_J7_fill_53178_l5 r0 FU x1 (0 : Int32) x3_1 M
noncomputable def f_X5_reach_b7 (r0 : Nat) (r2 : Nat) (k7 : Int32 → Int32 → Mem → Option (Mem)) (x1 : Int32) (x3 : Int32) (M : Mem) : Option (Mem) :=
  if (4096 : Int32) ≤ x3 then
    some M
  else
    (f_X5_make r0 x1 x3 M).bind fun r_2 =>
    letv (r_2 >>> ((5 : Int32) &&& 31)) fun x5_3 =>
    if x5_3 < 0 then
      k7 x1 (x3 + (1 : Int32)) M
    else
      if (nI (aln r2)) ≤ x5_3 then
        k7 x1 (x3 + (1 : Int32)) M
      else
        ck (vp_in x5_3 (aln r2)) <|
        ck (vp_in x5_3 (aln r2)) <|
        letv (up M r2 (ix x5_3) ((M r2 (ix x5_3)) ||| ((1 : Int32) <<< ((r_2 &&& (31 : Int32)) &&& 31)))) fun M_6 =>
        k7 x1 (x3 + (1 : Int32)) M_6
noncomputable def f_X5_reach_l7 (r0 : Nat) (r2 : Nat) : Nat → Int32 → Int32 → Mem → Option (Mem) := lp (fun _ _ _ => none) (f_X5_reach_b7 r0 r2)
noncomputable def f_X5_reach (r0 : Nat) (x1 : Int32) (r2 : Nat) (M : Mem) : Option (Mem) :=
  (f_J7_fill_53178 r2 (0 : Int32) M).bind fun r_1 =>
  f_X5_reach_l7 r0 r2 FU x1 (0 : Int32) r_1
noncomputable def f_X5_allPurses_b4 (r0 : Nat) (k4 : Int32 → Int32 → Mem → Option (Int32)) (x1 : Int32) (x2 : Int32) (M : Mem) : Option (Int32) :=
  if (M r0 0) ≤ x2 then
    some x1
  else
    ck (vp_in x2 6) <|
    letv (x1 + (M (r0 + 6) (ix x2))) fun x1_2 =>
    k4 x1_2 (x2 + (1 : Int32)) M
noncomputable def f_X5_allPurses_l4 (r0 : Nat) : Nat → Int32 → Int32 → Mem → Option (Int32) := lp (fun _ _ _ => none) (f_X5_allPurses_b4 r0)
noncomputable def f_X5_allPurses (r0 : Nat) (M : Mem) : Option (Int32) :=
  f_X5_allPurses_l4 r0 FU (0 : Int32) (0 : Int32) M
noncomputable def f_X2_take_b4 (k4 : Int32 → Int32 → Mem → Option (Mem)) (x1 : Int32) (x3 : Int32) (M : Mem) : Option (Mem) :=
  if x3 < 0 then
    some M
  else
    if (120 : Int32) ≤ (M 49 1) then
      some M
    else
      ck (vp_in (M 49 1) 120) <|
      letv (up M 50 (ix (M 49 1)) (((Int32.toUInt32 x1 >>> (Int32.toUInt32 ((8 : Int32) * x3) &&& Int32.toUInt32 31)).toInt32) &&& (255 : Int32))) fun M_3 =>
      letv (up M_3 49 1 ((M_3 49 1) + (1 : Int32))) fun M_4 =>
      k4 x1 (x3 + (-1 : Int32)) M_4
noncomputable def f_X2_take_l4 : Nat → Int32 → Int32 → Mem → Option (Mem) := lp (fun _ _ _ => none) (f_X2_take_b4)
noncomputable def f_X2_take (x1 : Int32) (x2 : Int32) (M : Mem) : Option (Mem) :=
  letv (x2 - (1 : Int32)) fun x3_1 =>
  f_X2_take_l4 FU x1 x3_1 M
noncomputable def f_X2_isDigit (x0 : Int32) (M : Mem) : Option (Bool) :=
  if x0 < (48 : Int32) then
    some false
  else
    if (57 : Int32) < x0 then
      some false
    else
      some true
noncomputable def f_X2_isLetter (x0 : Int32) (M : Mem) : Option (Bool) :=
  if x0 < (97 : Int32) then
    some false
  else
    if (122 : Int32) < x0 then
      some false
    else
      some true
noncomputable def f_X2_takeNumber_b10 (k10 : Mem → Option (Mem)) (M : Mem) : Option (Mem) :=
  if (M 49 1) ≤ (M 49 4) then
    some M
  else
    ck (vp_in (M 49 4) 120) <|
    (f_X2_isDigit (M 50 (ix (M 49 4))) M).bind fun r_4 =>
    if (b2i r_4) = 0 then
      some M
    else
      ck (vp_in (M 49 4) 120) <|
      letv (up M 49 3 (mnI ((((10 : Int32) * (M 49 3)) + (M 50 (ix (M 49 4)))) - (48 : Int32)) (100000 : Int32))) fun M_6 =>
      letv (up M_6 49 4 ((M_6 49 4) + (1 : Int32))) fun M_7 =>
      k10 M_7
noncomputable def f_X2_takeNumber_l10 : Nat → Mem → Option (Mem) := lp (fun _ => none) (f_X2_takeNumber_b10)
noncomputable def f_X2_takeNumber (M : Mem) : Option (Mem) :=
  letv (up M 49 5 (2 : Int32)) fun M_1 =>
  letv (up M_1 49 3 (0 : Int32)) fun M_2 =>
  f_X2_takeNumber_l10 FU M_2
noncomputable def f_X2_takeWord_b5 (k5 : Mem → Option (Mem)) (M : Mem) : Option (Mem) :=
  if (M 49 1) ≤ (M 49 4) then
    some M
  else
    ck (vp_in (M 49 4) 120) <|
    (f_X2_isLetter (M 50 (ix (M 49 4))) M).bind fun r_3 =>
    if (b2i r_3) = 0 then
      some M
    else
      letv (up M 49 4 ((M 49 4) + (1 : Int32))) fun M_4 =>
      k5 M_4
noncomputable def f_X2_takeWord_l5 : Nat → Mem → Option (Mem) := lp (fun _ => none) (f_X2_takeWord_b5)
noncomputable def f_X2_takeWord (M : Mem) : Option (Mem) :=
  letv (up M 49 5 (1 : Int32)) fun M_1 =>
  f_X2_takeWord_l5 FU M_1
noncomputable def f_X2_step_j38 (M : Mem) : Option (Mem) :=
  letv (up M 49 2 (M 49 4)) fun M_5 =>
  if (M_5 49 4) < (M_5 49 1) then
    ck (vp_in (M_5 49 4) 120) <|
    (f_X2_isLetter (M_5 50 (ix (M_5 49 4))) M_5).bind fun r_7 =>
    if (b2i r_7) = 0 then
      ck (vp_in (M_5 49 4) 120) <|
      (f_X2_isDigit (M_5 50 (ix (M_5 49 4))) M_5).bind fun r_9 =>
      if (b2i r_9) = 0 then
        ck (vp_in (M_5 49 4) 120) <|
        if (M_5 50 (ix (M_5 49 4))) = (59 : Int32) then
          letv (up M_5 49 5 (3 : Int32)) fun M_12 =>
          letv (up M_12 49 4 ((M_12 49 4) + (1 : Int32))) fun M_13 =>
          some M_13
        else
          letv (up M_5 49 5 (5 : Int32)) fun M_11 =>
          some M_11
      else
        (f_X2_takeNumber M_5).bind fun r_14 =>
        some r_14
    else
      (f_X2_takeWord M_5).bind fun r_15 =>
      some r_15
  else
    letv (up M_5 49 5 (4 : Int32)) fun M_16 =>
    some M_16
noncomputable def f_X2_step_b0 (k0 : Mem → Option (Mem)) (M : Mem) : Option (Mem) :=
  if (M 49 1) ≤ (M 49 4) then
    f_X2_step_j38 M
  else
    ck (vp_in (M 49 4) 120) <|
    if (M 50 (ix (M 49 4))) = (32 : Int32) then
      letv (up M 49 4 ((M 49 4) + (1 : Int32))) fun M_4 =>
      k0 M_4
    else
      f_X2_step_j38 M
noncomputable def f_X2_step_l0 : Nat → Mem → Option (Mem) := lp (fun _ => none) (f_X2_step_b0)
noncomputable def f_X2_step (M : Mem) : Option (Mem) :=
  if (M 49 1) ≤ (M 49 4) then
    f_X2_step_j38 M
  else
    ck (vp_in (M 49 4) 120) <|
    if (M 50 (ix (M 49 4))) = (32 : Int32) then
      letv (up M 49 4 ((M 49 4) + (1 : Int32))) fun M_2 =>
      f_X2_step_l0 FU M_2
    else
      f_X2_step_j38 M
noncomputable def f_X2_rewind (M : Mem) : Option (Mem) :=
  letv (up M 49 4 (0 : Int32)) fun M_1 =>
  (f_X2_step M_1).bind fun r_2 =>
  some r_2
noncomputable def f_X2_isAtEnd (M : Mem) : Option (Bool) :=
  if (M 49 5) = (4 : Int32) then
    some true
  else
    some false
noncomputable def f_X2_isSign (M : Mem) : Option (Bool) :=
  if (M 49 5) = (3 : Int32) then
    some true
  else
    some false
noncomputable def f_X2_isNumber (M : Mem) : Option (Bool) :=
  if (M 49 5) = (2 : Int32) then
    some true
  else
    some false
noncomputable def f_X2_isNumberUpTo (x1 : Int32) (M : Mem) : Option (Bool) :=
  if (M 49 5) = (2 : Int32) then
    if x1 < (M 49 3) then
      some false
    else
      some true
  else
    some false
noncomputable def f_X2_isWord_b28 (r1 : Nat) (k28 : Int32 → Mem → Option (Bool)) (x2 : Int32) (M : Mem) : Option (Bool) :=
  if (slI r1) ≤ x2 then
    some true
  else
    ck (vp_in ((M 49 2) + x2) 120) <|
    ck (vp_in x2 (slen.getD r1 0)) <|
    if (M 50 (ix ((M 49 2) + x2))) = (scI r1 x2) then
      k28 (x2 + (1 : Int32)) M
    else
      some false
noncomputable def f_X2_isWord_l28 (r1 : Nat) : Nat → Int32 → Mem → Option (Bool) := lp (fun _ _ => none) (f_X2_isWord_b28 r1)
noncomputable def f_X2_isWord (r1 : Nat) (M : Mem) : Option (Bool) :=
  if (M 49 5) = (1 : Int32) then
    if ((M 49 4) - (M 49 2)) = (slI r1) then
      f_X2_isWord_l28 r1 FU (0 : Int32) M
    else
      some false
  else
    some false
noncomputable def f_X3_kindOfWord (M : Mem) : Option (Int32) :=
  (f_X2_isWord 2 M).bind fun r_1 =>
  if (b2i r_1) = 0 then
    (f_X2_isWord 3 M).bind fun r_2 =>
    if (b2i r_2) = 0 then
      (f_X2_isWord 4 M).bind fun r_3 =>
      if (b2i r_3) = 0 then
        (f_X2_isWord 5 M).bind fun r_4 =>
        if (b2i r_4) = 0 then
          (f_X2_isWord 6 M).bind fun r_5 =>
          if (b2i r_5) = 0 then
            (f_X2_isWord 7 M).bind fun r_6 =>
            if (b2i r_6) = 0 then
              (f_X2_isWord 8 M).bind fun r_7 =>
              if (b2i r_7) = 0 then
                some (-1 : Int32)
              else
                some (6 : Int32)
            else
              some (5 : Int32)
          else
            some (4 : Int32)
        else
          some (3 : Int32)
      else
        some (2 : Int32)
    else
      some (1 : Int32)
  else
    some (0 : Int32)
noncomputable def f_X3_perhapsMarks_b38 (r1 : Nat) (r2 : Nat) (k38 : Int32 → Int32 → Int32 → Mem → Option (Bool × Mem)) (x3 : Int32) (x4 : Int32) (x5 : Int32) (M : Mem) : Option (Bool × Mem) :=
  if (120 : Int32) ≤ x5 then
    ck (vp_in x3 (aln r2)) <|
    letv (up M r2 (ix x3) x4) fun M_5 =>
    some (true, M_5)
  else
    (f_X2_isNumber M).bind fun r_6 =>
    if (b2i r_6) = 0 then
      ck (vp_in x3 (aln r2)) <|
      letv (up M r2 (ix x3) x4) fun M_8 =>
      some (true, M_8)
    else
      (f_X2_isNumberUpTo (11 : Int32) M).bind fun r_9 =>
      if (b2i r_9) = 0 then
        some (false, M)
      else
        letv (x4 ||| ((1 : Int32) <<< ((M 49 3) &&& 31))) fun x4_10 =>
        (f_X2_step M).bind fun r_11 =>
        k38 x3 x4_10 (x5 + (1 : Int32)) r_11
noncomputable def f_X3_perhapsMarks_l38 (r1 : Nat) (r2 : Nat) : Nat → Int32 → Int32 → Int32 → Mem → Option (Bool × Mem) := lp (fun _ _ _ _ => none) (f_X3_perhapsMarks_b38 r1 r2)
noncomputable def f_X3_perhapsMarks (r1 : Nat) (r2 : Nat) (x3 : Int32) (M : Mem) : Option (Bool × Mem) :=
  (f_X2_isWord r1 M).bind fun r_1 =>
  if (b2i r_1) = 0 then
    some (true, M)
  else
    (f_X2_step M).bind fun r_2 =>
    (f_X2_isNumber r_2).bind fun r_3 =>
    if (b2i r_3) = 0 then
      some (false, r_2)
    else
      f_X3_perhapsMarks_l38 r1 r2 FU x3 (0 : Int32) (0 : Int32) r_2
noncomputable def f_X3_perhapsNumber (r1 : Nat) (x2 : Int32) (r3 : Nat) (x4 : Int32) (M : Mem) : Option (Bool × Mem) :=
  (f_X2_isWord r1 M).bind fun r_1 =>
  if (b2i r_1) = 0 then
    some (true, M)
  else
    (f_X2_step M).bind fun r_2 =>
    (f_X2_isNumberUpTo x2 r_2).bind fun r_3 =>
    if (b2i r_3) = 0 then
      some (false, r_2)
    else
      ck (vp_in x4 (aln r3)) <|
      letv (up r_2 r3 (ix x4) (r_2 49 3)) fun M_5 =>
      (f_X2_step M_5).bind fun r_6 =>
      some (true, r_6)
noncomputable def f_X3_newPerson (M : Mem) : Option (Bool × Mem) :=
  if (M 25 0) < (8 : Int32) then
    (f_X2_step M).bind fun r_1 =>
    (f_X2_isWord 13 r_1).bind fun r_2 =>
    if (b2i r_2) = 0 then
      some (false, r_1)
    else
      (f_X2_step r_1).bind fun r_3 =>
      (f_X2_isNumberUpTo ((r_3 18 0) - (1 : Int32)) r_3).bind fun r_4 =>
      if (b2i r_4) = 0 then
        some (false, r_3)
      else
        (f_X0_addOne 25 (r_3 49 3) r_3).bind fun r_5 =>
        if 0 ≤ r_5.1 then
          (f_X2_step r_5.2).bind fun r_6 =>
          (f_X3_perhapsMarks 14 26 r_5.1 r_6).bind fun r_7 =>
          if (b2i r_7.1) = 0 then
            some (false, r_7.2)
          else
            (f_X3_perhapsNumber 15 (99999 : Int32) 29 r_5.1 r_7.2).bind fun r_8 =>
            if (b2i r_8.1) = 0 then
              some (false, r_8.2)
            else
              some (true, r_8.2)
        else
          some (false, r_5.2)
  else
    some (false, M)
noncomputable def f_X3_newTie (M : Mem) : Option (Bool × Mem) :=
  letv ((M 25 0) - (1 : Int32)) fun x1_1 =>
  (f_X2_step M).bind fun r_2 =>
  (f_X2_isNumberUpTo x1_1 r_2).bind fun r_3 =>
  if (b2i r_3) = 0 then
    some (false, r_2)
  else
    letv (r_2 49 3) fun x2_4 =>
    (f_X2_step r_2).bind fun r_5 =>
    (f_X2_isNumberUpTo x1_1 r_5).bind fun r_6 =>
    if (b2i r_6) = 0 then
      some (false, r_5)
    else
      if (r_5 49 3) = x2_4 then
        some (false, r_5)
      else
        (f_X0_bind 25 x2_4 (r_5 49 3) (1 : Int32) r_5).bind fun r_7 =>
        (f_X2_step r_7).bind fun r_8 =>
        some (true, r_8)
noncomputable def f_X3_newWriter (x1 : Int32) (M : Mem) : Option (Bool × Mem) :=
  (f_X5_addOne 18 x1 M).bind fun r_1 =>
  if 0 ≤ r_1.1 then
    (f_X2_step r_1.2).bind fun r_2 =>
    (f_X3_perhapsMarks 9 20 r_1.1 r_2).bind fun r_3 =>
    if (b2i r_3.1) = 0 then
      some (false, r_3.2)
    else
      (f_X3_perhapsMarks 10 21 r_1.1 r_3.2).bind fun r_4 =>
      if (b2i r_4.1) = 0 then
        some (false, r_4.2)
      else
        (f_X3_perhapsMarks 11 22 r_1.1 r_4.2).bind fun r_5 =>
        if (b2i r_5.1) = 0 then
          some (false, r_5.2)
        else
          (f_X3_perhapsNumber 12 (99 : Int32) 23 r_1.1 r_5.2).bind fun r_6 =>
          if (b2i r_6.1) = 0 then
            some (false, r_6.2)
          else
            some (true, r_6.2)
  else
    some (false, r_1.2)
noncomputable def f_X3_item (M : Mem) : Option (Bool × Mem) :=
  (f_X2_isWord 0 M).bind fun r_1 =>
  if (b2i r_1) = 0 then
    (f_X2_isWord 1 M).bind fun r_2 =>
    if (b2i r_2) = 0 then
      (f_X3_kindOfWord M).bind fun r_3 =>
      if r_3 < 0 then
        some (false, M)
      else
        (f_X3_newWriter r_3 M).bind fun r_4 =>
        if (b2i r_4.1) = 0 then
          some (false, r_4.2)
        else
          some (true, r_4.2)
    else
      (f_X3_newTie M).bind fun r_5 =>
      some (r_5.1, r_5.2)
  else
    (f_X3_newPerson M).bind fun r_6 =>
    some (r_6.1, r_6.2)
noncomputable def f_X3_wholeText_b9 (k9 : Int32 → Mem → Option (Int32 × Mem)) (x1 : Int32) (M : Mem) : Option (Int32 × Mem) :=
  if (120 : Int32) < x1 then
    some ((-1 : Int32) - (M 49 2), M)
  else
    (f_X3_item M).bind fun r_2 =>
    if (b2i r_2.1) = 0 then
      some ((-1 : Int32) - (r_2.2 49 2), r_2.2)
    else
      (f_X2_isAtEnd r_2.2).bind fun r_3 =>
      if (b2i r_3) = 0 then
        (f_X2_isSign r_2.2).bind fun r_4 =>
        if (b2i r_4) = 0 then
          some ((-1 : Int32) - (r_2.2 49 2), r_2.2)
        else
          (f_X2_step r_2.2).bind fun r_5 =>
          k9 (x1 + (1 : Int32)) r_5
      else
        some (x1, r_2.2)
noncomputable def f_X3_wholeText_l9 : Nat → Int32 → Mem → Option (Int32 × Mem) := lp (fun _ _ => none) (f_X3_wholeText_b9)
noncomputable def f_X3_wholeText (M : Mem) : Option (Int32 × Mem) :=
  (f_X2_rewind M).bind fun r_1 =>
  f_X3_wholeText_l9 FU (1 : Int32) r_1
noncomputable def f_X4_become (r0 : Nat) (r1 : Nat) (M : Mem) : Option (Mem) :=
  (f_X5_become (r0 + 1) (r1 + 1) M).bind fun r_1 =>
  (f_X0_become (r0 + 8) (r1 + 8) r_1).bind fun r_2 =>
  ck (cpOK (0 : Int32) (0 : Int32) (10 : Int32) 10 10) <|
  letv (cpM r_2 (r1 + 15) (0 : Int32) (r0 + 15) (0 : Int32) (10 : Int32)) fun M_3 =>
  letv (up M_3 r0 3 (M_3 r1 3)) fun M_5 =>
  letv (up M_5 r0 4 (M_5 r1 4)) fun M_6 =>
  letv (up M_6 r0 5 (M_6 r1 5)) fun M_7 =>
  letv (up M_7 r0 6 (0 : Int32)) fun M_8 =>
  some M_8
noncomputable def f_X4_hasYears (r0 : Nat) (x1 : Int32) (M : Mem) : Option (Bool) :=
  if (999 : Int32) < ((M r0 3) + x1) then
    some false
  else
    some true
noncomputable def f_X4_heard (r0 : Nat) (x1 : Int32) (x2 : Int32) (M : Mem) : Option (Int32) :=
  ck (vp_in x1 8) <|
  if (M (r0 + 8 + 5) (ix x1)) = 0 then
    ck (vp_in x1 8) <|
    (f_X5_make (r0 + 1) (M (r0 + 8 + 3) (ix x1)) x2 M).bind fun r_3 =>
    some r_3
  else
    some x2
noncomputable def f_X4_fee (r0 : Nat) (x1 : Int32) (M : Mem) : Option (Int32) :=
  ck (vp_in x1 8) <|
  letv (M (r0 + 8 + 3) (ix x1)) fun x2_2 =>
  ck (vp_in x1 8) <|
  if (M (r0 + 8 + 5) (ix x1)) = 0 then
    (f_X5_has (r0 + 1) x2_2 M).bind fun r_4 =>
    if (b2i r_4) = 0 then
      some (0 : Int32)
    else
      ck (vp_in x2_2 6) <|
      some (M (r0 + 1 + 5) (ix x2_2))
  else
    some (0 : Int32)
noncomputable def f_X4_pay (r0 : Nat) (x1 : Int32) (M : Mem) : Option (Mem) :=
  ck (vp_in x1 8) <|
  letv (M (r0 + 8 + 3) (ix x1)) fun x2_2 =>
  ck (vp_in x1 8) <|
  if (M (r0 + 8 + 5) (ix x1)) = 0 then
    (f_X5_has (r0 + 1) x2_2 M).bind fun r_4 =>
    if (b2i r_4) = 0 then
      some M
    else
      ck (vp_in x1 8) <|
      ck (vp_in x2_2 6) <|
      ck (vp_in x1 8) <|
      letv (up M (r0 + 8 + 4) (ix x1) ((M (r0 + 8 + 4) (ix x1)) - (M (r0 + 1 + 5) (ix x2_2)))) fun M_8 =>
      ck (vp_in x2_2 6) <|
      ck (vp_in x2_2 6) <|
      ck (vp_in x2_2 6) <|
      letv (up M_8 (r0 + 1 + 6) (ix x2_2) ((M_8 (r0 + 1 + 6) (ix x2_2)) + (M_8 (r0 + 1 + 5) (ix x2_2)))) fun M_12 =>
      letv (up M_12 r0 6 ((M_12 r0 6) + (1 : Int32))) fun M_13 =>
      some M_13
  else
    some M
noncomputable def f_X4_letter (r0 : Nat) (x1 : Int32) (x2 : Int32) (x3 : Int32) (M : Mem) : Option (Int32 × Mem) :=
  ck (vp_in x1 8) <|
  (f_X4_fee r0 x1 M).bind fun r_2 =>
  if (M (r0 + 8 + 4) (ix x1)) < r_2 then
    some ((-1 : Int32), M)
  else
    ck (vp_in x2 8) <|
    (f_X4_fee r0 x2 M).bind fun r_4 =>
    if r_4 ≤ (M (r0 + 8 + 4) (ix x2)) then
      (f_X4_pay r0 x1 M).bind fun r_5 =>
      (f_X4_pay r0 x2 r_5).bind fun r_6 =>
      (f_X4_heard r0 x1 x3 r_6).bind fun r_7 =>
      (f_X4_heard r0 x2 r_7 r_6).bind fun r_8 =>
      ck (vp_in x2 8) <|
      ck (vp_in x2 8) <|
      letv (up r_6 (r0 + 8 + 2) (ix x2) ((r_6 (r0 + 8 + 2) (ix x2)) ||| r_8)) fun M_11 =>
      letv (up M_11 r0 4 ((M_11 r0 4) + (1 : Int32))) fun M_12 =>
      some (r_8, M_12)
    else
      some ((-1 : Int32), M)
noncomputable def f_X4_passOne_b17 (r0 : Nat) (k2 : Int32 → Mem → Option (Mem)) (k17 : Int32 → Int32 → Mem → Option (Mem)) (x1 : Int32) (x2 : Int32) (M : Mem) : Option (Mem) :=
  if (M (r0 + 8) 0) ≤ x2 then
    k2 (x1 + (1 : Int32)) M
  else
    (f_X0_isTied (r0 + 8) x1 x2 M).bind fun r_2 =>
    if (b2i r_2) = 0 then
      k17 x1 (x2 + (1 : Int32)) M
    else
      (f_X0_ownWords (r0 + 8) x1 M).bind fun r_3 =>
      (f_X4_letter r0 x1 x2 r_3 M).bind fun r_4 =>
      (f_X0_ownWords (r0 + 8) x2 r_4.2).bind fun r_5 =>
      (f_X4_letter r0 x2 x1 r_5 r_4.2).bind fun r_6 =>
      k17 x1 (x2 + (1 : Int32)) r_6.2
noncomputable def f_X4_passOne_l17 (r0 : Nat) (k2 : Int32 → Mem → Option (Mem)) : Nat → Int32 → Int32 → Mem → Option (Mem) := lp (fun _ _ _ => none) (f_X4_passOne_b17 r0 k2)
noncomputable def f_X4_passOne_b2 (r0 : Nat) (k2 : Int32 → Mem → Option (Mem)) (x1 : Int32) (M : Mem) : Option (Mem) :=
  if (M (r0 + 8) 0) ≤ x1 then
    some M
  else
    letv (x1 + (1 : Int32)) fun x2_1 =>
    f_X4_passOne_l17 r0 k2 FU x1 x2_1 M
noncomputable def f_X4_passOne_l2 (r0 : Nat) : Nat → Int32 → Mem → Option (Mem) := lp (fun _ _ => none) (f_X4_passOne_b2 r0)
noncomputable def f_X4_passOne (r0 : Nat) (M : Mem) : Option (Mem) :=
  f_X4_passOne_l2 r0 FU (0 : Int32) M
noncomputable def f_X4_passYears_b2 (r0 : Nat) (k2 : Int32 → Int32 → Mem → Option (Mem)) (x1 : Int32) (x2 : Int32) (M : Mem) : Option (Mem) :=
  if x1 ≤ x2 then
    letv (up M r0 3 ((M r0 3) + x1)) fun M_1 =>
    some M_1
  else
    letv (M r0 4) fun x3_2 =>
    (f_X4_passOne r0 M).bind fun r_3 =>
    if (r_3 r0 4) = x3_2 then
      letv (up r_3 r0 3 ((r_3 r0 3) + x1)) fun M_4 =>
      some M_4
    else
      k2 x1 (x2 + (1 : Int32)) r_3
noncomputable def f_X4_passYears_l2 (r0 : Nat) : Nat → Int32 → Int32 → Mem → Option (Mem) := lp (fun _ _ _ => none) (f_X4_passYears_b2 r0)
noncomputable def f_X4_passYears (r0 : Nat) (x1 : Int32) (M : Mem) : Option (Mem) :=
  f_X4_passYears_l2 r0 FU x1 (0 : Int32) M
noncomputable def f_X4_poor_b4 (r0 : Nat) (k4 : Int32 → Int32 → Mem → Option (Int32)) (x1 : Int32) (x2 : Int32) (M : Mem) : Option (Int32) :=
  if (M (r0 + 8) 0) ≤ x2 then
    some x1
  else
    ck (vp_in x2 8) <|
    (f_X4_fee r0 x2 M).bind fun r_2 =>
    if r_2 ≤ (M (r0 + 8 + 4) (ix x2)) then
      k4 x1 (x2 + (1 : Int32)) M
    else
      letv (x1 ||| ((1 : Int32) <<< (x2 &&& 31))) fun x1_3 =>
      k4 x1_3 (x2 + (1 : Int32)) M
noncomputable def f_X4_poor_l4 (r0 : Nat) : Nat → Int32 → Int32 → Mem → Option (Int32) := lp (fun _ _ _ => none) (f_X4_poor_b4 r0)
noncomputable def f_X4_poor (r0 : Nat) (M : Mem) : Option (Int32) :=
  f_X4_poor_l4 r0 FU (0 : Int32) (0 : Int32) M
noncomputable def f_X4_howManySpots_b4 (r0 : Nat) (k4 : Int32 → Int32 → Mem → Option (Int32)) (x1 : Int32) (x2 : Int32) (M : Mem) : Option (Int32) :=
  if (10 : Int32) ≤ x2 then
    some x1
  else
    ck (vp_in x2 10) <|
    if (M (r0 + 15) (ix x2)) < 0 then
      k4 x1 (x2 + (1 : Int32)) M
    else
      k4 (x1 + (1 : Int32)) (x2 + (1 : Int32)) M
noncomputable def f_X4_howManySpots_l4 (r0 : Nat) : Nat → Int32 → Int32 → Mem → Option (Int32) := lp (fun _ _ _ => none) (f_X4_howManySpots_b4 r0)
noncomputable def f_X4_howManySpots (r0 : Nat) (M : Mem) : Option (Int32) :=
  f_X4_howManySpots_l4 r0 FU (0 : Int32) (0 : Int32) M
noncomputable def f_X4_draw (r0 : Nat) (M : Mem) : Option (Int32 × Mem) :=
  letv (up M r0 5 (((M r0 5) * (1103515245 : Int32)) + (12345 : Int32))) fun M_1 =>
  some ((Int32.toUInt32 (M_1 r0 5) >>> (Int32.toUInt32 (8 : Int32) &&& Int32.toUInt32 31)).toInt32, M_1)
noncomputable def f_X6_found (x1 : Int32) (M : Mem) : Option (Int32 × Mem) :=
  letv ((-1000001 : Int32) - x1) fun x2_1 =>
  if x2_1 < 0 then
    some (x1, M)
  else
    if (7 : Int32) ≤ x2_1 then
      some (x1, M)
    else
      ck (vp_in x2_1 7) <|
      ck (vp_in x2_1 7) <|
      letv (up M 56 (ix x2_1) ((M 56 (ix x2_1)) + (1 : Int32))) fun M_4 =>
      some (x1, M_4)
noncomputable def f_X6_isKind (x0 : Int32) (M : Mem) : Option (Bool) :=
  if x0 < 0 then
    some false
  else
    if (7 : Int32) ≤ x0 then
      some false
    else
      some true
noncomputable def f_X6_writer (x1 : Int32) (M : Mem) : Option (Int32 × Mem) :=
  (f_X6_isKind x1 M).bind fun r_1 =>
  if (b2i r_1) = 0 then
    (f_X6_found (-1000001 : Int32) M).bind fun r_4 =>
    some (r_4.1, r_4.2)
  else
    (f_X5_addOne 2 x1 M).bind fun r_2 =>
    if 0 ≤ r_2.1 then
      some (r_2.1, r_2.2)
    else
      (f_X6_found (-1000002 : Int32) r_2.2).bind fun r_3 =>
      some (r_3.1, r_3.2)
noncomputable def f_X6_writerOf (x1 : Int32) (x2 : Int32) (M : Mem) : Option (Int32 × Mem) :=
  (f_X5_row 2 x2 M).bind fun r_1 =>
  match r_1 with
  | none =>
    (f_X5_has 2 x1 M).bind fun r_4 =>
    if (b2i r_4) = 0 then
      (f_X6_found (-1000001 : Int32) M).bind fun r_5 =>
      some (r_5.1, r_5.2)
    else
      (f_X6_found (-1000001 : Int32) M).bind fun r_6 =>
      some (r_6.1, r_6.2)
  | some a_2 => ck (IsK a_2 8) <|
    (f_X5_has 2 x1 M).bind fun r_7 =>
    if (b2i r_7) = 0 then
      (f_X6_found (-1000001 : Int32) M).bind fun r_8 =>
      some (r_8.1, r_8.2)
    else
      ck (vp_in x1 (aln a_2)) <|
      some (M a_2 (ix x1), M)
noncomputable def f_X6_isSaying (x0 : Int32) (M : Mem) : Option (Bool) :=
  if x0 < 0 then
    some false
  else
    if (4096 : Int32) ≤ x0 then
      some false
    else
      some true
noncomputable def f_X6_isLaw (x0 : Int32) (x1 : Int32) (M : Mem) : Option (Bool) :=
  if x0 = (0 : Int32) then
    (f_X6_isKind x1 M).bind fun r_1 =>
    some r_1
  else
    if x0 = (1 : Int32) then
      (f_X6_isSaying x1 M).bind fun r_2 =>
      some r_2
    else
      if x0 = (2 : Int32) then
        (f_X6_isSaying x1 M).bind fun r_3 =>
        some r_3
      else
        if x0 = (3 : Int32) then
          (f_X6_isSaying x1 M).bind fun r_4 =>
          some r_4
        else
          if x0 = (4 : Int32) then
            if x1 < 0 then
              some false
            else
              if (99 : Int32) < x1 then
                some false
              else
                some true
          else
            some false
noncomputable def f_X6_law (x1 : Int32) (x2 : Int32) (x3 : Int32) (M : Mem) : Option (Int32 × Mem) :=
  (f_X5_row 2 x2 M).bind fun r_1 =>
  match r_1 with
  | none =>
    (f_X5_has 2 x1 M).bind fun r_4 =>
    if (b2i r_4) = 0 then
      (f_X6_found (-1000001 : Int32) M).bind fun r_5 =>
      some (r_5.1, r_5.2)
    else
      (f_X6_found (-1000001 : Int32) M).bind fun r_6 =>
      some (r_6.1, r_6.2)
  | some a_2 => ck (IsK a_2 8) <|
    (f_X5_has 2 x1 M).bind fun r_7 =>
    if (b2i r_7) = 0 then
      (f_X6_found (-1000001 : Int32) M).bind fun r_8 =>
      some (r_8.1, r_8.2)
    else
      (f_X6_isLaw x2 x3 M).bind fun r_9 =>
      if (b2i r_9) = 0 then
        (f_X6_found (-1000001 : Int32) M).bind fun r_14 =>
        some (r_14.1, r_14.2)
      else
        ck (vp_in x1 (aln a_2)) <|
        letv (M a_2 (ix x1)) fun x5_11 =>
        ck (vp_in x1 (aln a_2)) <|
        letv (up M a_2 (ix x1) x3) fun M_13 =>
        some (x5_11, M_13)
noncomputable def f_X6_person (x1 : Int32) (M : Mem) : Option (Int32 × Mem) :=
  (f_X5_has 2 x1 M).bind fun r_1 =>
  if (b2i r_1) = 0 then
    (f_X6_found (-1000001 : Int32) M).bind fun r_4 =>
    some (r_4.1, r_4.2)
  else
    (f_X0_addOne 9 x1 M).bind fun r_2 =>
    if 0 ≤ r_2.1 then
      some (r_2.1, r_2.2)
    else
      (f_X6_found (-1000002 : Int32) r_2.2).bind fun r_3 =>
      some (r_3.1, r_3.2)
noncomputable def f_X6_of (x1 : Int32) (x2 : Int32) (M : Mem) : Option (Int32 × Mem) :=
  (f_X0_has 9 x1 M).bind fun r_1 =>
  if (b2i r_1) = 0 then
    (f_X6_found (-1000001 : Int32) M).bind fun r_8 =>
    some (r_8.1, r_8.2)
  else
    if x2 = (5 : Int32) then
      (f_X0_lies 9 x1 M).bind fun r_7 =>
      some (r_7, M)
    else
      (f_X0_row 9 x2 M).bind fun r_2 =>
      match r_2 with
      | none =>
        (f_X6_found (-1000001 : Int32) M).bind fun r_5 =>
        some (r_5.1, r_5.2)
      | some a_3 => ck (IsK a_3 8) <|
        ck (vp_in x1 (aln a_3)) <|
        some (M a_3 (ix x1), M)
noncomputable def f_X6_isOfPerson (x1 : Int32) (x2 : Int32) (M : Mem) : Option (Bool) :=
  if x1 = (0 : Int32) then
    (f_X6_isSaying x2 M).bind fun r_1 =>
    some r_1
  else
    if x1 = (1 : Int32) then
      (f_X6_isSaying x2 M).bind fun r_2 =>
      some r_2
    else
      if x1 = (2 : Int32) then
        (f_X5_has 2 x2 M).bind fun r_3 =>
        some r_3
      else
        if x1 = (3 : Int32) then
          if x2 < 0 then
            some false
          else
            if (99999 : Int32) < x2 then
              some false
            else
              some true
        else
          if x1 = (4 : Int32) then
            if x2 = 0 then
              some true
            else
              if x2 = (1 : Int32) then
                some true
              else
                some false
          else
            some false
noncomputable def f_X6_change (x1 : Int32) (x2 : Int32) (x3 : Int32) (M : Mem) : Option (Int32 × Mem) :=
  (f_X0_row 9 x2 M).bind fun r_1 =>
  match r_1 with
  | none =>
    (f_X0_has 9 x1 M).bind fun r_4 =>
    if (b2i r_4) = 0 then
      (f_X6_found (-1000001 : Int32) M).bind fun r_5 =>
      some (r_5.1, r_5.2)
    else
      (f_X6_found (-1000001 : Int32) M).bind fun r_6 =>
      some (r_6.1, r_6.2)
  | some a_2 => ck (IsK a_2 8) <|
    (f_X0_has 9 x1 M).bind fun r_7 =>
    if (b2i r_7) = 0 then
      (f_X6_found (-1000001 : Int32) M).bind fun r_8 =>
      some (r_8.1, r_8.2)
    else
      (f_X6_isOfPerson x2 x3 M).bind fun r_9 =>
      if (b2i r_9) = 0 then
        (f_X6_found (-1000001 : Int32) M).bind fun r_14 =>
        some (r_14.1, r_14.2)
      else
        ck (vp_in x1 (aln a_2)) <|
        letv (M a_2 (ix x1)) fun x5_11 =>
        ck (vp_in x1 (aln a_2)) <|
        letv (up M a_2 (ix x1) x3) fun M_13 =>
        some (x5_11, M_13)
noncomputable def f_X6_tie (x1 : Int32) (x2 : Int32) (x3 : Int32) (M : Mem) : Option (Int32 × Mem) :=
  (f_X0_areTwo 9 x1 x2 M).bind fun r_1 =>
  if (b2i r_1) = 0 then
    (f_X6_found (-1000001 : Int32) M).bind fun r_5 =>
    some (r_5.1, r_5.2)
  else
    (f_X0_isTied 9 x1 x2 M).bind fun r_2 =>
    if (b2i r_2) = 0 then
      (f_X0_bind 9 x1 x2 x3 M).bind fun r_3 =>
      some ((0 : Int32), r_3)
    else
      (f_X0_bind 9 x1 x2 x3 M).bind fun r_4 =>
      some ((1 : Int32), r_4)
noncomputable def f_X6_ties (x1 : Int32) (M : Mem) : Option (Int32 × Mem) :=
  (f_X0_has 9 x1 M).bind fun r_1 =>
  if (b2i r_1) = 0 then
    (f_X6_found (-1000001 : Int32) M).bind fun r_3 =>
    some (r_3.1, r_3.2)
  else
    ck (vp_in x1 8) <|
    some (M 15 (ix x1), M)
noncomputable def f_X6_puts (x1 : Int32) (x2 : Int32) (M : Mem) : Option (Int32 × Mem) :=
  (f_X5_has 2 x1 M).bind fun r_1 =>
  if (b2i r_1) = 0 then
    (f_X6_found (-1000001 : Int32) M).bind fun r_2 =>
    some (r_2.1, r_2.2)
  else
    (f_X6_isSaying x2 M).bind fun r_3 =>
    if (b2i r_3) = 0 then
      (f_X6_found (-1000001 : Int32) M).bind fun r_5 =>
      some (r_5.1, r_5.2)
    else
      (f_X5_make 2 x1 x2 M).bind fun r_4 =>
      some (r_4, M)
noncomputable def f_X6_says (x1 : Int32) (M : Mem) : Option (Int32 × Mem) :=
  (f_X0_has 9 x1 M).bind fun r_1 =>
  if (b2i r_1) = 0 then
    (f_X6_found (-1000001 : Int32) M).bind fun r_3 =>
    some (r_3.1, r_3.2)
  else
    (f_X0_ownWords 9 x1 M).bind fun r_2 =>
    some (r_2, M)
noncomputable def f_X6_read (x1 : Int32) (x2 : Int32) (x3 : Int32) (M : Mem) : Option (Int32 × Mem) :=
  (f_X0_areTwo 9 x1 x2 M).bind fun r_1 =>
  if (b2i r_1) = 0 then
    (f_X6_found (-1000001 : Int32) M).bind fun r_2 =>
    some (r_2.1, r_2.2)
  else
    (f_X6_isSaying x3 M).bind fun r_3 =>
    if (b2i r_3) = 0 then
      (f_X6_found (-1000001 : Int32) M).bind fun r_6 =>
      some (r_6.1, r_6.2)
    else
      (f_X4_heard 1 x1 x3 M).bind fun r_4 =>
      (f_X4_heard 1 x2 r_4 M).bind fun r_5 =>
      some (r_5, M)
noncomputable def f_X6_send (x1 : Int32) (x2 : Int32) (x3 : Int32) (M : Mem) : Option (Int32 × Mem) :=
  (f_X0_areTwo 9 x1 x2 M).bind fun r_1 =>
  if (b2i r_1) = 0 then
    (f_X6_found (-1000001 : Int32) M).bind fun r_2 =>
    some (r_2.1, r_2.2)
  else
    (f_X6_isSaying x3 M).bind fun r_3 =>
    if (b2i r_3) = 0 then
      (f_X6_found (-1000001 : Int32) M).bind fun r_6 =>
      some (r_6.1, r_6.2)
    else
      (f_X4_letter 1 x1 x2 x3 M).bind fun r_4 =>
      if 0 ≤ r_4.1 then
        some (r_4.1, r_4.2)
      else
        (f_X6_found (-1000005 : Int32) r_4.2).bind fun r_5 =>
        some (r_5.1, r_5.2)
noncomputable def f_X6_years (x1 : Int32) (M : Mem) : Option (Int32 × Mem) :=
  if x1 < (1 : Int32) then
    (f_X6_found (-1000001 : Int32) M).bind fun r_1 =>
    some (r_1.1, r_1.2)
  else
    if x1 ≤ (30 : Int32) then
      (f_X4_hasYears 1 x1 M).bind fun r_2 =>
      if (b2i r_2) = 0 then
        (f_X6_found (-1000005 : Int32) M).bind fun r_5 =>
        some (r_5.1, r_5.2)
      else
        letv (M 1 4) fun x2_3 =>
        (f_X4_passYears 1 x1 M).bind fun r_4 =>
        some ((r_4 1 4) - x2_3, r_4)
    else
      (f_X6_found (-1000001 : Int32) M).bind fun r_6 =>
      some (r_6.1, r_6.2)
noncomputable def f_X6_now (x1 : Int32) (M : Mem) : Option (Int32 × Mem) :=
  if x1 = (0 : Int32) then
    some (M 1 3, M)
  else
    if x1 = (1 : Int32) then
      some (M 1 4, M)
    else
      if x1 = (2 : Int32) then
        (f_X0_howManyTies 9 M).bind fun r_1 =>
        some (r_1, M)
      else
        if x1 = (3 : Int32) then
          (f_X0_anyOf 9 10 M).bind fun r_2 =>
          some (r_2, M)
        else
          if x1 = (4 : Int32) then
            (f_X0_anyOf 9 11 M).bind fun r_3 =>
            some (r_3, M)
          else
            if x1 = (5 : Int32) then
              (f_X0_allPence 9 M).bind fun r_4 =>
              (f_X5_allPurses 2 M).bind fun r_5 =>
              some (r_4 + r_5, M)
            else
              (f_X6_found (-1000001 : Int32) M).bind fun r_6 =>
              some (r_6.1, r_6.2)
noncomputable def f_X6_isMark (x0 : Int32) (M : Mem) : Option (Bool) :=
  if x0 < 0 then
    some false
  else
    if (12 : Int32) ≤ x0 then
      some false
    else
      some true
noncomputable def f_X6_who (x1 : Int32) (M : Mem) : Option (Int32 × Mem) :=
  (f_X6_isMark x1 M).bind fun r_1 =>
  if (b2i r_1) = 0 then
    (f_X6_found (-1000001 : Int32) M).bind fun r_3 =>
    some (r_3.1, r_3.2)
  else
    (f_X0_believers 9 x1 M).bind fun r_2 =>
    some (r_2, M)
noncomputable def f_X6_isAhead (x0 : Int32) (M : Mem) : Option (Bool) :=
  if x0 < 0 then
    some false
  else
    if (60 : Int32) < x0 then
      some false
    else
      some true
noncomputable def f_X6_ahead (x1 : Int32) (x2 : Int32) (M : Mem) : Option (Int32 × Mem) :=
  (f_X6_isAhead x1 M).bind fun r_1 =>
  if (b2i r_1) = 0 then
    (f_X6_found (-1000001 : Int32) M).bind fun r_2 =>
    some (r_2.1, r_2.2)
  else
    if x2 < 0 then
      (f_X6_found (-1000001 : Int32) M).bind fun r_3 =>
      some (r_3.1, r_3.2)
    else
      if x2 < ((3 : Int32) + (M 9 0)) then
        (f_X4_hasYears 1 x1 M).bind fun r_4 =>
        if (b2i r_4) = 0 then
          (f_X6_found (-1000005 : Int32) M).bind fun r_10 =>
          some (r_10.1, r_10.2)
        else
          (f_X4_become 17 1 M).bind fun r_5 =>
          (f_X4_passYears 17 x1 r_5).bind fun r_6 =>
          if x2 = (0 : Int32) then
            some ((r_6 17 4) - (r_6 1 4), r_6)
          else
            if x2 = (1 : Int32) then
              (f_X4_poor 17 r_6).bind fun r_7 =>
              some (r_7, r_6)
            else
              if x2 = (2 : Int32) then
                (f_X0_believedByAll 25 r_6).bind fun r_8 =>
                some (r_8, r_6)
              else
                ck (vp_in (x2 - (3 : Int32)) 8) <|
                some (r_6 27 (ix (x2 - (3 : Int32))), r_6)
      else
        (f_X6_found (-1000001 : Int32) M).bind fun r_11 =>
        some (r_11.1, r_11.2)
noncomputable def f_X6_when_b60 (k60 : Int32 → Int32 → Int32 → Mem → Option (Int32 × Mem)) (x1 : Int32) (x2 : Int32) (x3 : Int32) (M : Mem) : Option (Int32 × Mem) :=
  if (60 : Int32) < x3 then
    (f_X6_found (-1000004 : Int32) M).bind fun r_8 =>
    some (r_8.1, r_8.2)
  else
    ck (vp_in x1 8) <|
    if ((M 27 (ix x1)) &&& ((1 : Int32) <<< (x2 &&& 31))) = 0 then
      (f_X4_passYears 17 (1 : Int32) M).bind fun r_10 =>
      k60 x1 x2 (x3 + (1 : Int32)) r_10
    else
      some (x3, M)
noncomputable def f_X6_when_l60 : Nat → Int32 → Int32 → Int32 → Mem → Option (Int32 × Mem) := lp (fun _ _ _ _ => none) (f_X6_when_b60)
noncomputable def f_X6_when (x1 : Int32) (x2 : Int32) (M : Mem) : Option (Int32 × Mem) :=
  (f_X0_has 9 x1 M).bind fun r_1 =>
  if (b2i r_1) = 0 then
    (f_X6_found (-1000001 : Int32) M).bind fun r_2 =>
    some (r_2.1, r_2.2)
  else
    (f_X6_isMark x2 M).bind fun r_3 =>
    if (b2i r_3) = 0 then
      (f_X6_found (-1000001 : Int32) M).bind fun r_7 =>
      some (r_7.1, r_7.2)
    else
      (f_X4_hasYears 1 (60 : Int32) M).bind fun r_4 =>
      if (b2i r_4) = 0 then
        (f_X6_found (-1000005 : Int32) M).bind fun r_6 =>
        some (r_6.1, r_6.2)
      else
        (f_X4_become 17 1 M).bind fun r_5 =>
        f_X6_when_l60 FU x1 x2 (0 : Int32) r_5
noncomputable def f_X6_believersWithout (x1 : Int32) (x2 : Int32) (x3 : Int32) (M : Mem) : Option (Int32 × Mem) :=
  (f_X4_become 17 1 M).bind fun r_1 =>
  ck (vp_in x1 6) <|
  letv (up r_1 21 (ix x1) (0 : Int32)) fun M_3 =>
  (f_X4_passYears 17 x3 M_3).bind fun r_4 =>
  (f_X0_believers 25 x2 r_4).bind fun r_5 =>
  some (r_5, r_4)
noncomputable def f_X6_without (x1 : Int32) (x2 : Int32) (x3 : Int32) (M : Mem) : Option (Int32 × Mem) :=
  (f_X5_has 2 x1 M).bind fun r_1 =>
  if (b2i r_1) = 0 then
    (f_X6_found (-1000001 : Int32) M).bind fun r_2 =>
    some (r_2.1, r_2.2)
  else
    (f_X6_isMark x2 M).bind fun r_3 =>
    if (b2i r_3) = 0 then
      (f_X6_found (-1000001 : Int32) M).bind fun r_4 =>
      some (r_4.1, r_4.2)
    else
      (f_X6_isAhead x3 M).bind fun r_5 =>
      if (b2i r_5) = 0 then
        (f_X6_found (-1000001 : Int32) M).bind fun r_9 =>
        some (r_9.1, r_9.2)
      else
        (f_X4_hasYears 1 x3 M).bind fun r_6 =>
        if (b2i r_6) = 0 then
          (f_X6_found (-1000005 : Int32) M).bind fun r_8 =>
          some (r_8.1, r_8.2)
        else
          (f_X6_believersWithout x1 x2 x3 M).bind fun r_7 =>
          some (r_7.1, r_7.2)
noncomputable def f_X6_added_b79 (k79 : Int32 → Int32 → Int32 → Int32 → Int32 → Mem → Option (Int32 × Mem)) (x1 : Int32) (x2 : Int32) (x3 : Int32) (x4 : Int32) (x5 : Int32) (M : Mem) : Option (Int32 × Mem) :=
  if (M 2 0) ≤ x5 then
    some (x4, M)
  else
    (f_X6_believersWithout x5 x1 x2 M).bind fun r_11 =>
    (f_J6_bitCount_0f7a4 r_11.1 r_11.2).bind fun r_12 =>
    if x3 ≤ r_12 then
      k79 x1 x2 x3 x4 (x5 + (1 : Int32)) r_11.2
    else
      letv (x4 ||| ((1 : Int32) <<< (x5 &&& 31))) fun x4_13 =>
      k79 x1 x2 x3 x4_13 (x5 + (1 : Int32)) r_11.2
noncomputable def f_X6_added_l79 : Nat → Int32 → Int32 → Int32 → Int32 → Int32 → Mem → Option (Int32 × Mem) := lp (fun _ _ _ _ _ _ => none) (f_X6_added_b79)
noncomputable def f_X6_added (x1 : Int32) (x2 : Int32) (M : Mem) : Option (Int32 × Mem) :=
  (f_X6_isMark x1 M).bind fun r_1 =>
  if (b2i r_1) = 0 then
    (f_X6_found (-1000001 : Int32) M).bind fun r_2 =>
    some (r_2.1, r_2.2)
  else
    (f_X6_isAhead x2 M).bind fun r_3 =>
    if (b2i r_3) = 0 then
      (f_X6_found (-1000001 : Int32) M).bind fun r_10 =>
      some (r_10.1, r_10.2)
    else
      (f_X4_hasYears 1 x2 M).bind fun r_4 =>
      if (b2i r_4) = 0 then
        (f_X6_found (-1000005 : Int32) M).bind fun r_9 =>
        some (r_9.1, r_9.2)
      else
        (f_X4_become 17 1 M).bind fun r_5 =>
        (f_X4_passYears 17 x2 r_5).bind fun r_6 =>
        (f_X0_believers 25 x1 r_6).bind fun r_7 =>
        (f_J6_bitCount_0f7a4 r_7 r_6).bind fun r_8 =>
        f_X6_added_l79 FU x1 x2 r_8 (0 : Int32) (0 : Int32) r_6
noncomputable def f_X6_best_b56 (k56 : Int32 → Int32 → Int32 → Int32 → Int32 → Int32 → Mem → Option (Int32 × Mem)) (x1 : Int32) (x2 : Int32) (x3 : Int32) (x4 : Int32) (x5 : Int32) (x6 : Int32) (M : Mem) : Option (Int32 × Mem) :=
  if (M 2 0) ≤ x6 then
    some (x4, M)
  else
    (f_X4_become 17 1 M).bind fun r_7 =>
    ck (vp_in x1 8) <|
    letv (up r_7 28 (ix x1) x6) fun M_9 =>
    (f_X4_passYears 17 x3 M_9).bind fun r_10 =>
    ck (vp_in x1 8) <|
    ck (vp_in x2 8) <|
    (f_J6_bitCount_0f7a4 ((r_10 26 (ix x1)) &&& (r_10 27 (ix x2))) r_10).bind fun r_13 =>
    if r_13 ≤ x5 then
      k56 x1 x2 x3 x4 x5 (x6 + (1 : Int32)) r_10
    else
      k56 x1 x2 x3 x6 r_13 (x6 + (1 : Int32)) r_10
noncomputable def f_X6_best_l56 : Nat → Int32 → Int32 → Int32 → Int32 → Int32 → Int32 → Mem → Option (Int32 × Mem) := lp (fun _ _ _ _ _ _ _ => none) (f_X6_best_b56)
noncomputable def f_X6_best (x1 : Int32) (x2 : Int32) (x3 : Int32) (M : Mem) : Option (Int32 × Mem) :=
  (f_X0_areTwo 9 x1 x2 M).bind fun r_1 =>
  if (b2i r_1) = 0 then
    (f_X6_found (-1000001 : Int32) M).bind fun r_2 =>
    some (r_2.1, r_2.2)
  else
    (f_X6_isAhead x3 M).bind fun r_3 =>
    if (b2i r_3) = 0 then
      (f_X6_found (-1000001 : Int32) M).bind fun r_6 =>
      some (r_6.1, r_6.2)
    else
      (f_X4_hasYears 1 x3 M).bind fun r_4 =>
      if (b2i r_4) = 0 then
        (f_X6_found (-1000005 : Int32) M).bind fun r_5 =>
        some (r_5.1, r_5.2)
      else
        f_X6_best_l56 FU x1 x2 x3 (0 : Int32) (-1 : Int32) (0 : Int32) M
noncomputable def f_X6_howManyWithTie (x1 : Int32) (x2 : Int32) (x3 : Int32) (x4 : Int32) (M : Mem) : Option (Int32 × Mem) :=
  (f_X4_become 17 1 M).bind fun r_1 =>
  (f_X0_bind 25 x1 x2 (1 : Int32) r_1).bind fun r_2 =>
  (f_X4_passYears 17 x4 r_2).bind fun r_3 =>
  (f_X0_believers 25 x3 r_3).bind fun r_4 =>
  (f_J6_bitCount_0f7a4 r_4 r_3).bind fun r_5 =>
  some (r_5, r_3)
noncomputable def f_X6_bridge_b68 (k47 : Int32 → Int32 → Int32 → Int32 → Int32 → Mem → Option (Int32 × Mem)) (k68 : Int32 → Int32 → Int32 → Int32 → Int32 → Int32 → Mem → Option (Int32 × Mem)) (x1 : Int32) (x2 : Int32) (x3 : Int32) (x4 : Int32) (x5 : Int32) (x6 : Int32) (M : Mem) : Option (Int32 × Mem) :=
  if (M 9 0) ≤ x6 then
    k47 x1 x2 x3 x4 (x5 + (1 : Int32)) M
  else
    (f_X0_isTied 9 x5 x6 M).bind fun r_9 =>
    if (b2i r_9) = 0 then
      (f_X6_howManyWithTie x5 x6 x1 x2 M).bind fun r_10 =>
      if r_10.1 ≤ x4 then
        k68 x1 x2 x3 x4 x5 (x6 + (1 : Int32)) r_10.2
      else
        letv (((10 : Int32) * x5) + x6) fun x3_11 =>
        k68 x1 x2 x3_11 r_10.1 x5 (x6 + (1 : Int32)) r_10.2
    else
      k68 x1 x2 x3 x4 x5 (x6 + (1 : Int32)) M
noncomputable def f_X6_bridge_l68 (k47 : Int32 → Int32 → Int32 → Int32 → Int32 → Mem → Option (Int32 × Mem)) : Nat → Int32 → Int32 → Int32 → Int32 → Int32 → Int32 → Mem → Option (Int32 × Mem) := lp (fun _ _ _ _ _ _ _ => none) (f_X6_bridge_b68 k47)
noncomputable def f_X6_bridge_b47 (k47 : Int32 → Int32 → Int32 → Int32 → Int32 → Mem → Option (Int32 × Mem)) (x1 : Int32) (x2 : Int32) (x3 : Int32) (x4 : Int32) (x5 : Int32) (M : Mem) : Option (Int32 × Mem) :=
  if (M 9 0) ≤ x5 then
    if 0 ≤ x3 then
      some (x3, M)
    else
      (f_X6_found (-1000004 : Int32) M).bind fun r_7 =>
      some (r_7.1, r_7.2)
  else
    letv (x5 + (1 : Int32)) fun x6_8 =>
    f_X6_bridge_l68 k47 FU x1 x2 x3 x4 x5 x6_8 M
noncomputable def f_X6_bridge_l47 : Nat → Int32 → Int32 → Int32 → Int32 → Int32 → Mem → Option (Int32 × Mem) := lp (fun _ _ _ _ _ _ => none) (f_X6_bridge_b47)
noncomputable def f_X6_bridge (x1 : Int32) (x2 : Int32) (M : Mem) : Option (Int32 × Mem) :=
  (f_X6_isMark x1 M).bind fun r_1 =>
  if (b2i r_1) = 0 then
    (f_X6_found (-1000001 : Int32) M).bind fun r_2 =>
    some (r_2.1, r_2.2)
  else
    (f_X6_isAhead x2 M).bind fun r_3 =>
    if (b2i r_3) = 0 then
      (f_X6_found (-1000001 : Int32) M).bind fun r_6 =>
      some (r_6.1, r_6.2)
    else
      (f_X4_hasYears 1 x2 M).bind fun r_4 =>
      if (b2i r_4) = 0 then
        (f_X6_found (-1000005 : Int32) M).bind fun r_5 =>
        some (r_5.1, r_5.2)
      else
        f_X6_bridge_l47 FU x1 x2 (-1 : Int32) (-1 : Int32) (0 : Int32) M
noncomputable def f_X6_many (x1 : Int32) (x2 : Int32) (M : Mem) : Option (Int32 × Mem) :=
  (f_X5_has 2 x1 M).bind fun r_1 =>
  if (b2i r_1) = 0 then
    (f_X6_found (-1000001 : Int32) M).bind fun r_2 =>
    some (r_2.1, r_2.2)
  else
    (f_X6_isSaying x2 M).bind fun r_3 =>
    if (b2i r_3) = 0 then
      (f_X6_found (-1000001 : Int32) M).bind fun r_5 =>
      some (r_5.1, r_5.2)
    else
      (f_X5_waysTo 2 x1 x2 M).bind fun r_4 =>
      some (r_4, M)
noncomputable def f_X6_said_b51 (k51 : Int32 → Int32 → Int32 → Int32 → Int32 → Int32 → Int32 → Mem → Option (Int32 × Mem)) (x1 : Int32) (x2 : Int32) (x3 : Int32) (x4 : Int32) (x5 : Int32) (x6 : Int32) (x7 : Int32) (M : Mem) : Option (Int32 × Mem) :=
  if (4096 : Int32) ≤ x7 then
    if 0 ≤ x4 then
      if x3 = 0 then
        some (x4, M)
      else
        if x3 = (1 : Int32) then
          some (x5, M)
        else
          some (x6, M)
    else
      (f_X6_found (-1000004 : Int32) M).bind fun r_7 =>
      some (r_7.1, r_7.2)
  else
    (f_X5_make 2 x1 x7 M).bind fun r_8 =>
    if r_8 = x2 then
      if 0 ≤ x4 then
        letv (x5 &&& x7) fun x5_9 =>
        letv (x6 ||| x7) fun x6_10 =>
        k51 x1 x2 x3 x4 x5_9 x6_10 (x7 + (1 : Int32)) M
      else
        letv (x5 &&& x7) fun x5_11 =>
        letv (x6 ||| x7) fun x6_12 =>
        k51 x1 x2 x3 x7 x5_11 x6_12 (x7 + (1 : Int32)) M
    else
      k51 x1 x2 x3 x4 x5 x6 (x7 + (1 : Int32)) M
noncomputable def f_X6_said_l51 : Nat → Int32 → Int32 → Int32 → Int32 → Int32 → Int32 → Int32 → Mem → Option (Int32 × Mem) := lp (fun _ _ _ _ _ _ _ _ => none) (f_X6_said_b51)
noncomputable def f_X6_said (x1 : Int32) (x2 : Int32) (x3 : Int32) (M : Mem) : Option (Int32 × Mem) :=
  (f_X5_has 2 x1 M).bind fun r_1 =>
  if (b2i r_1) = 0 then
    (f_X6_found (-1000001 : Int32) M).bind fun r_2 =>
    some (r_2.1, r_2.2)
  else
    (f_X6_isSaying x2 M).bind fun r_3 =>
    if (b2i r_3) = 0 then
      (f_X6_found (-1000001 : Int32) M).bind fun r_4 =>
      some (r_4.1, r_4.2)
    else
      if x3 < 0 then
        (f_X6_found (-1000001 : Int32) M).bind fun r_5 =>
        some (r_5.1, r_5.2)
      else
        if x3 ≤ (2 : Int32) then
          f_X6_said_l51 FU x1 x2 x3 (-1 : Int32) (4095 : Int32) (0 : Int32) (0 : Int32) M
        else
          (f_X6_found (-1000001 : Int32) M).bind fun r_6 =>
          some (r_6.1, r_6.2)
noncomputable def f_X6_hands_b18 (k18 : Int32 → Int32 → Int32 → Mem → Option (Int32 × Mem)) (x1 : Int32) (x2 : Int32) (x3 : Int32) (M : Mem) : Option (Int32 × Mem) :=
  if (M 2 0) ≤ x3 then
    some (x2, M)
  else
    (f_X5_waysTo 2 x3 x1 M).bind fun r_3 =>
    if r_3 ≤ 0 then
      k18 x1 x2 (x3 + (1 : Int32)) M
    else
      letv (x2 ||| ((1 : Int32) <<< (x3 &&& 31))) fun x2_4 =>
      k18 x1 x2_4 (x3 + (1 : Int32)) M
noncomputable def f_X6_hands_l18 : Nat → Int32 → Int32 → Int32 → Mem → Option (Int32 × Mem) := lp (fun _ _ _ _ => none) (f_X6_hands_b18)
noncomputable def f_X6_hands (x1 : Int32) (M : Mem) : Option (Int32 × Mem) :=
  (f_X6_isSaying x1 M).bind fun r_1 =>
  if (b2i r_1) = 0 then
    (f_X6_found (-1000001 : Int32) M).bind fun r_2 =>
    some (r_2.1, r_2.2)
  else
    f_X6_hands_l18 FU x1 (0 : Int32) (0 : Int32) M
noncomputable def f_X6_likeliest_b21 (k21 : Int32 → Int32 → Int32 → Int32 → Mem → Option (Int32 × Mem)) (x1 : Int32) (x2 : Int32) (x3 : Int32) (x4 : Int32) (M : Mem) : Option (Int32 × Mem) :=
  if (M 2 0) ≤ x4 then
    if 0 ≤ x2 then
      some (x2, M)
    else
      (f_X6_found (-1000004 : Int32) M).bind fun r_3 =>
      some (r_3.1, r_3.2)
  else
    (f_X5_waysTo 2 x4 x1 M).bind fun r_4 =>
    if r_4 ≤ x3 then
      k21 x1 x2 x3 (x4 + (1 : Int32)) M
    else
      k21 x1 x4 r_4 (x4 + (1 : Int32)) M
noncomputable def f_X6_likeliest_l21 : Nat → Int32 → Int32 → Int32 → Int32 → Mem → Option (Int32 × Mem) := lp (fun _ _ _ _ _ => none) (f_X6_likeliest_b21)
noncomputable def f_X6_likeliest (x1 : Int32) (M : Mem) : Option (Int32 × Mem) :=
  (f_X6_isSaying x1 M).bind fun r_1 =>
  if (b2i r_1) = 0 then
    (f_X6_found (-1000001 : Int32) M).bind fun r_2 =>
    some (r_2.1, r_2.2)
  else
    f_X6_likeliest_l21 FU x1 (-1 : Int32) (0 : Int32) (0 : Int32) M
noncomputable def f_X6_near_b42 (k42 : Int32 → Int32 → Int32 → Int32 → Int32 → Mem → Option (Int32 × Mem)) (x1 : Int32) (x2 : Int32) (x3 : Int32) (x4 : Int32) (x5 : Int32) (M : Mem) : Option (Int32 × Mem) :=
  if (4096 : Int32) ≤ x5 then
    if x4 ≤ (12 : Int32) then
      some (x4, M)
    else
      (f_X6_found (-1000004 : Int32) M).bind fun r_7 =>
      some (r_7.1, r_7.2)
  else
    (f_X5_make 2 x1 x5 M).bind fun r_8 =>
    if r_8 = x3 then
      (f_J6_bitCount_0f7a4 (x5 ^^^ x2) M).bind fun r_9 =>
      letv (mnI x4 r_9) fun x4_10 =>
      k42 x1 x2 x3 x4_10 (x5 + (1 : Int32)) M
    else
      k42 x1 x2 x3 x4 (x5 + (1 : Int32)) M
noncomputable def f_X6_near_l42 : Nat → Int32 → Int32 → Int32 → Int32 → Int32 → Mem → Option (Int32 × Mem) := lp (fun _ _ _ _ _ _ => none) (f_X6_near_b42)
noncomputable def f_X6_near (x1 : Int32) (x2 : Int32) (x3 : Int32) (M : Mem) : Option (Int32 × Mem) :=
  (f_X5_has 2 x1 M).bind fun r_1 =>
  if (b2i r_1) = 0 then
    (f_X6_found (-1000001 : Int32) M).bind fun r_2 =>
    some (r_2.1, r_2.2)
  else
    (f_X6_isSaying x2 M).bind fun r_3 =>
    if (b2i r_3) = 0 then
      (f_X6_found (-1000001 : Int32) M).bind fun r_4 =>
      some (r_4.1, r_4.2)
    else
      (f_X6_isSaying x3 M).bind fun r_5 =>
      if (b2i r_5) = 0 then
        (f_X6_found (-1000001 : Int32) M).bind fun r_6 =>
        some (r_6.1, r_6.2)
      else
        f_X6_near_l42 FU x1 x2 x3 (13 : Int32) (0 : Int32) M
noncomputable def f_X6_honest_b25 (k25 : Int32 → Int32 → Int32 → Mem → Option (Int32 × Mem)) (x1 : Int32) (x2 : Int32) (x3 : Int32) (M : Mem) : Option (Int32 × Mem) :=
  if (4096 : Int32) ≤ x3 then
    some (x2, M)
  else
    (f_X5_make 2 x1 x3 M).bind fun r_3 =>
    if r_3 = x3 then
      k25 x1 (x2 + (1 : Int32)) (x3 + (1 : Int32)) M
    else
      k25 x1 x2 (x3 + (1 : Int32)) M
noncomputable def f_X6_honest_l25 : Nat → Int32 → Int32 → Int32 → Mem → Option (Int32 × Mem) := lp (fun _ _ _ _ => none) (f_X6_honest_b25)
noncomputable def f_X6_honest (x1 : Int32) (M : Mem) : Option (Int32 × Mem) :=
  (f_X5_has 2 x1 M).bind fun r_1 =>
  if (b2i r_1) = 0 then
    (f_X6_found (-1000001 : Int32) M).bind fun r_2 =>
    some (r_2.1, r_2.2)
  else
    f_X6_honest_l25 FU x1 (0 : Int32) (0 : Int32) M
noncomputable def f_X6_round_b29 (k29 : Int32 → Int32 → Int32 → Mem → Option (Int32 × Mem)) (x2 : Int32) (x3 : Int32) (x4 : Int32) (M : Mem) : Option (Int32 × Mem) :=
  if x2 ≤ x4 then
    some (x3, M)
  else
    (f_X5_onceRound 2 x3 M).bind fun r_5 =>
    k29 x2 r_5 (x4 + (1 : Int32)) M
noncomputable def f_X6_round_l29 : Nat → Int32 → Int32 → Int32 → Mem → Option (Int32 × Mem) := lp (fun _ _ _ _ => none) (f_X6_round_b29)
noncomputable def f_X6_round (x1 : Int32) (x2 : Int32) (M : Mem) : Option (Int32 × Mem) :=
  (f_X6_isSaying x1 M).bind fun r_1 =>
  if (b2i r_1) = 0 then
    (f_X6_found (-1000001 : Int32) M).bind fun r_2 =>
    some (r_2.1, r_2.2)
  else
    if x2 < 0 then
      (f_X6_found (-1000001 : Int32) M).bind fun r_3 =>
      some (r_3.1, r_3.2)
    else
      if x2 ≤ (20 : Int32) then
        f_X6_round_l29 FU x2 x1 (0 : Int32) M
      else
        (f_X6_found (-1000001 : Int32) M).bind fun r_4 =>
        some (r_4.1, r_4.2)
noncomputable def f_X6_settles_b46 (k25 : Int32 → Int32 → Mem → Option (Int32 × Mem)) (k46 : Int32 → Int32 → Int32 → Mem → Option (Int32 × Mem)) (x2 : Int32) (x3 : Int32) (x4 : Int32) (M : Mem) : Option (Int32 × Mem) :=
  if x3 ≤ x4 then
    ck (vp_in x3 101) <|
    letv (up M 57 (ix x3) x2) fun M_8 =>
    k25 x2 (x3 + (1 : Int32)) M_8
  else
    ck (vp_in x4 101) <|
    if (M 57 (ix x4)) = x2 then
      some (x3, M)
    else
      k46 x2 x3 (x4 + (1 : Int32)) M
noncomputable def f_X6_settles_l46 (k25 : Int32 → Int32 → Mem → Option (Int32 × Mem)) : Nat → Int32 → Int32 → Int32 → Mem → Option (Int32 × Mem) := lp (fun _ _ _ _ => none) (f_X6_settles_b46 k25)
noncomputable def f_X6_settles_b25 (k25 : Int32 → Int32 → Mem → Option (Int32 × Mem)) (x2 : Int32) (x3 : Int32) (M : Mem) : Option (Int32 × Mem) :=
  if (100 : Int32) < x3 then
    (f_X6_found (-1000004 : Int32) M).bind fun r_5 =>
    some (r_5.1, r_5.2)
  else
    (f_X5_onceRound 2 x2 M).bind fun r_6 =>
    f_X6_settles_l46 k25 FU r_6 x3 (0 : Int32) M
noncomputable def f_X6_settles_l25 : Nat → Int32 → Int32 → Mem → Option (Int32 × Mem) := lp (fun _ _ _ => none) (f_X6_settles_b25)
noncomputable def f_X6_settles (x1 : Int32) (M : Mem) : Option (Int32 × Mem) :=
  (f_X6_isSaying x1 M).bind fun r_1 =>
  if (b2i r_1) = 0 then
    (f_X6_found (-1000001 : Int32) M).bind fun r_4 =>
    some (r_4.1, r_4.2)
  else
    ck (vp_in (0 : Int32) 101) <|
    letv (up M 57 (ix (0 : Int32)) x1) fun M_3 =>
    f_X6_settles_l25 FU x1 (1 : Int32) M_3
noncomputable def f_X6_court (x1 : Int32) (x2 : Int32) (x3 : Int32) (M : Mem) : Option (Int32 × Mem) :=
  (f_X5_has 2 x1 M).bind fun r_1 =>
  if (b2i r_1) = 0 then
    (f_X6_found (-1000001 : Int32) M).bind fun r_2 =>
    some (r_2.1, r_2.2)
  else
    (f_X5_has 2 x2 M).bind fun r_3 =>
    if (b2i r_3) = 0 then
      (f_X6_found (-1000001 : Int32) M).bind fun r_4 =>
      some (r_4.1, r_4.2)
    else
      (f_X6_isSaying x3 M).bind fun r_5 =>
      if (b2i r_5) = 0 then
        (f_X6_found (-1000001 : Int32) M).bind fun r_10 =>
        some (r_10.1, r_10.2)
      else
        (f_X5_make 2 x1 x3 M).bind fun r_6 =>
        (f_X5_make 2 x2 r_6 M).bind fun r_7 =>
        (f_J6_bitCount_0f7a4 (x3 &&& (r_7 ^^^ (-1 : Int32))) M).bind fun r_8 =>
        (f_J6_bitCount_0f7a4 (r_7 &&& (x3 ^^^ (-1 : Int32))) M).bind fun r_9 =>
        some (r_8 + ((100 : Int32) * r_9), M)
noncomputable def f_X6_witness_b51 (k30 : Int32 → Int32 → Int32 → Int32 → Mem → Option (Int32 × Mem)) (k51 : Int32 → Int32 → Int32 → Int32 → Int32 → Int32 → Mem → Option (Int32 × Mem)) (x1 : Int32) (x2 : Int32) (x3 : Int32) (x4 : Int32) (x5 : Int32) (x6 : Int32) (M : Mem) : Option (Int32 × Mem) :=
  if (4096 : Int32) ≤ x6 then
    if x3 ≤ x5 then
      k30 x1 x2 x3 (x4 + (1 : Int32)) M
    else
      k30 x1 x4 x5 (x4 + (1 : Int32)) M
  else
    (f_X5_make 2 x1 x6 M).bind fun r_3 =>
    (f_X5_make 2 x4 r_3 M).bind fun r_4 =>
    if r_4 = x6 then
      k51 x1 x2 x3 x4 x5 (x6 + (1 : Int32)) M
    else
      k51 x1 x2 x3 x4 (x5 + (1 : Int32)) (x6 + (1 : Int32)) M
noncomputable def f_X6_witness_l51 (k30 : Int32 → Int32 → Int32 → Int32 → Mem → Option (Int32 × Mem)) : Nat → Int32 → Int32 → Int32 → Int32 → Int32 → Int32 → Mem → Option (Int32 × Mem) := lp (fun _ _ _ _ _ _ _ => none) (f_X6_witness_b51 k30)
noncomputable def f_X6_witness_b30 (k30 : Int32 → Int32 → Int32 → Int32 → Mem → Option (Int32 × Mem)) (x1 : Int32) (x2 : Int32) (x3 : Int32) (x4 : Int32) (M : Mem) : Option (Int32 × Mem) :=
  if (M 2 0) ≤ x4 then
    some (x2, M)
  else
    f_X6_witness_l51 k30 FU x1 x2 x3 x4 (0 : Int32) (0 : Int32) M
noncomputable def f_X6_witness_l30 : Nat → Int32 → Int32 → Int32 → Int32 → Mem → Option (Int32 × Mem) := lp (fun _ _ _ _ _ => none) (f_X6_witness_b30)
noncomputable def f_X6_witness (x1 : Int32) (M : Mem) : Option (Int32 × Mem) :=
  (f_X5_has 2 x1 M).bind fun r_1 =>
  if (b2i r_1) = 0 then
    (f_X6_found (-1000001 : Int32) M).bind fun r_2 =>
    some (r_2.1, r_2.2)
  else
    f_X6_witness_l30 FU x1 (0 : Int32) (4097 : Int32) (0 : Int32) M
noncomputable def f_X6_price_b58 (k58 : Int32 → Int32 → Int32 → Int32 → Int32 → Mem → Option (Int32 × Mem)) (x1 : Int32) (x2 : Int32) (x3 : Int32) (x4 : Int32) (x5 : Int32) (M : Mem) : Option (Int32 × Mem) :=
  if (99 : Int32) < x5 then
    some (x3, M)
  else
    (f_X4_become 17 1 M).bind fun r_7 =>
    ck (vp_in x1 6) <|
    letv (up r_7 23 (ix x1) x5) fun M_9 =>
    (f_X4_passYears 17 x2 M_9).bind fun r_10 =>
    ck (vp_in x1 6) <|
    if (r_10 24 (ix x1)) ≤ x4 then
      k58 x1 x2 x3 x4 (x5 + (1 : Int32)) r_10
    else
      ck (vp_in x1 6) <|
      letv (r_10 24 (ix x1)) fun x4_13 =>
      k58 x1 x2 x5 x4_13 (x5 + (1 : Int32)) r_10
noncomputable def f_X6_price_l58 : Nat → Int32 → Int32 → Int32 → Int32 → Int32 → Mem → Option (Int32 × Mem) := lp (fun _ _ _ _ _ _ => none) (f_X6_price_b58)
noncomputable def f_X6_price (x1 : Int32) (x2 : Int32) (M : Mem) : Option (Int32 × Mem) :=
  (f_X5_has 2 x1 M).bind fun r_1 =>
  if (b2i r_1) = 0 then
    (f_X6_found (-1000001 : Int32) M).bind fun r_2 =>
    some (r_2.1, r_2.2)
  else
    if x2 < (1 : Int32) then
      (f_X6_found (-1000001 : Int32) M).bind fun r_3 =>
      some (r_3.1, r_3.2)
    else
      if x2 ≤ (20 : Int32) then
        (f_X4_hasYears 1 x2 M).bind fun r_4 =>
        if (b2i r_4) = 0 then
          (f_X6_found (-1000005 : Int32) M).bind fun r_5 =>
          some (r_5.1, r_5.2)
        else
          f_X6_price_l58 FU x1 x2 (0 : Int32) (-1 : Int32) (0 : Int32) M
      else
        (f_X6_found (-1000001 : Int32) M).bind fun r_6 =>
        some (r_6.1, r_6.2)
noncomputable def f_X6_school_b76 (k76 : Int32 → Int32 → Int32 → Mem → Option (Int32 × Mem)) (x1 : Int32) (x2 : Int32) (x3 : Int32) (M : Mem) : Option (Int32 × Mem) :=
  if (M 25 0) ≤ x3 then
    (f_X4_passYears 17 (1 : Int32) M).bind fun r_9 =>
    some (x2 - (r_9 17 6), r_9)
  else
    ck (vp_in x3 8) <|
    letv (up M 30 (ix x3) (1 : Int32)) fun M_11 =>
    letv (x3 + x1) fun x3_12 =>
    k76 x1 x2 x3_12 M_11
noncomputable def f_X6_school_l76 : Nat → Int32 → Int32 → Int32 → Mem → Option (Int32 × Mem) := lp (fun _ _ _ _ => none) (f_X6_school_b76)
noncomputable def f_X6_school (x1 : Int32) (M : Mem) : Option (Int32 × Mem) :=
  if x1 < (2 : Int32) then
    (f_X6_found (-1000001 : Int32) M).bind fun r_1 =>
    some (r_1.1, r_1.2)
  else
    if x1 ≤ (8 : Int32) then
      (f_X4_hasYears 1 (1 : Int32) M).bind fun r_2 =>
      if (b2i r_2) = 0 then
        (f_X6_found (-1000005 : Int32) M).bind fun r_7 =>
        some (r_7.1, r_7.2)
      else
        (f_X4_become 17 1 M).bind fun r_3 =>
        (f_X4_passYears 17 (1 : Int32) r_3).bind fun r_4 =>
        letv (r_4 17 6) fun x2_5 =>
        (f_X4_become 17 1 r_4).bind fun r_6 =>
        f_X6_school_l76 FU x1 x2_5 (0 : Int32) r_6
    else
      (f_X6_found (-1000001 : Int32) M).bind fun r_8 =>
      some (r_8.1, r_8.2)
noncomputable def f_X6_gossip_b43 (k43 : Int32 → Int32 → Int32 → Mem → Option (Int32 × Mem)) (x1 : Int32) (x2 : Int32) (x3 : Int32) (M : Mem) : Option (Int32 × Mem) :=
  if x1 ≤ x3 then
    (f_X0_anyOf 9 11 M).bind fun r_5 =>
    some (r_5, M)
  else
    (f_X4_draw 1 M).bind fun r_6 =>
    ck (¬ x2 = 0) <|
    letv (r_6.1 - r_6.1 / x2 * x2) fun x4_8 =>
    ck (vp_in x4_8 8) <|
    (f_X4_draw 1 r_6.2).bind fun r_10 =>
    ck (vp_in x4_8 8) <|
    letv (up r_10.2 11 (ix x4_8) ((r_6.2 11 (ix x4_8)) ||| ((1 : Int32) <<< ((r_10.1 - r_10.1 / (12 : Int32) * (12 : Int32)) &&& 31)))) fun M_12 =>
    k43 x1 x2 (x3 + (1 : Int32)) M_12
noncomputable def f_X6_gossip_l43 : Nat → Int32 → Int32 → Int32 → Mem → Option (Int32 × Mem) := lp (fun _ _ _ _ => none) (f_X6_gossip_b43)
noncomputable def f_X6_gossip (x1 : Int32) (M : Mem) : Option (Int32 × Mem) :=
  if x1 < (1 : Int32) then
    (f_X6_found (-1000001 : Int32) M).bind fun r_1 =>
    some (r_1.1, r_1.2)
  else
    if x1 ≤ (12 : Int32) then
      letv (M 9 0) fun x2_2 =>
      if (1 : Int32) ≤ x2_2 then
        f_X6_gossip_l43 FU x1 x2_2 (0 : Int32) M
      else
        (f_X6_found (-1000005 : Int32) M).bind fun r_3 =>
        some (r_3.1, r_3.2)
    else
      (f_X6_found (-1000001 : Int32) M).bind fun r_4 =>
      some (r_4.1, r_4.2)
noncomputable def f_X6_seed (x1 : Int32) (M : Mem) : Option (Int32 × Mem) :=
  letv (M 1 5) fun x2_1 =>
  letv (up M 1 5 x1) fun M_2 =>
  some (x2_1, M_2)
noncomputable def f_X6_feed (x1 : Int32) (x2 : Int32) (M : Mem) : Option (Int32 × Mem) :=
  if x2 < (1 : Int32) then
    (f_X6_found (-1000001 : Int32) M).bind fun r_1 =>
    some (r_1.1, r_1.2)
  else
    if x2 ≤ (4 : Int32) then
      if ((M 49 1) + x2) ≤ (120 : Int32) then
        (f_X2_take x1 x2 M).bind fun r_2 =>
        some (r_2 49 1, r_2)
      else
        (f_X6_found (-1000002 : Int32) M).bind fun r_3 =>
        some (r_3.1, r_3.2)
    else
      (f_X6_found (-1000001 : Int32) M).bind fun r_4 =>
      some (r_4.1, r_4.2)
noncomputable def f_X6_wipe (M : Mem) : Option (Int32 × Mem) :=
  letv (M 49 1) fun x1_1 =>
  letv (up M 49 1 (0 : Int32)) fun M_2 =>
  some (x1_1, M_2)
noncomputable def f_X6_text (M : Mem) : Option (Int32 × Mem) :=
  (f_X4_become 17 1 M).bind fun r_1 =>
  (f_X3_wholeText r_1).bind fun r_2 =>
  if r_2.1 < 0 then
    letv (up r_2.2 49 1 (0 : Int32)) fun M_3 =>
    some (r_2.1, M_3)
  else
    (f_X4_become 1 17 r_2.2).bind fun r_4 =>
    letv (up r_4 49 1 (0 : Int32)) fun M_5 =>
    some (r_2.1, M_5)
noncomputable def f_X6_isSpot (x0 : Int32) (M : Mem) : Option (Bool) :=
  if x0 < 0 then
    some false
  else
    if (10 : Int32) ≤ x0 then
      some false
    else
      some true
noncomputable def f_X6_hold (x1 : Int32) (x2 : Int32) (M : Mem) : Option (Int32 × Mem) :=
  (f_X6_isSpot x1 M).bind fun r_1 =>
  if (b2i r_1) = 0 then
    (f_X6_found (-1000001 : Int32) M).bind fun r_2 =>
    some (r_2.1, r_2.2)
  else
    if x2 = (-1 : Int32) then
      ck (vp_in x1 10) <|
      letv (up M 16 (ix x1) x2) fun M_4 =>
      some ((1 : Int32), M_4)
    else
      (f_X5_has 2 x2 M).bind fun r_5 =>
      if (b2i r_5) = 0 then
        (f_X6_found (-1000001 : Int32) M).bind fun r_8 =>
        some (r_8.1, r_8.2)
      else
        ck (vp_in x1 10) <|
        letv (up M 16 (ix x1) x2) fun M_7 =>
        some ((1 : Int32), M_7)
noncomputable def f_X6_isUnder_b4 (k4 : Int32 → Int32 → Int32 → Mem → Option (Bool)) (x1 : Int32) (x2 : Int32) (x3 : Int32) (M : Mem) : Option (Bool) :=
  if (7 : Int32) ≤ x3 then
    some false
  else
    (f_X6_isKind x2 M).bind fun r_1 =>
    if (b2i r_1) = 0 then
      some false
    else
      if x2 = x1 then
        some true
      else
        ck (vp_in x2 7) <|
        letv (und.getD (ix x2) 0) fun x2_3 =>
        k4 x1 x2_3 (x3 + (1 : Int32)) M
noncomputable def f_X6_isUnder_l4 : Nat → Int32 → Int32 → Int32 → Mem → Option (Bool) := lp (fun _ _ _ _ => none) (f_X6_isUnder_b4)
noncomputable def f_X6_isUnder (x0 : Int32) (x1 : Int32) (M : Mem) : Option (Bool) :=
  f_X6_isUnder_l4 FU x1 x0 (0 : Int32) M
noncomputable def f_X6_as (x1 : Int32) (x2 : Int32) (M : Mem) : Option (Int32 × Mem) :=
  (f_X6_isSpot x1 M).bind fun r_1 =>
  if (b2i r_1) = 0 then
    (f_X6_found (-1000001 : Int32) M).bind fun r_2 =>
    some (r_2.1, r_2.2)
  else
    (f_X6_isKind x2 M).bind fun r_3 =>
    if (b2i r_3) = 0 then
      (f_X6_found (-1000001 : Int32) M).bind fun r_11 =>
      some (r_11.1, r_11.2)
    else
      ck (vp_in x1 10) <|
      letv (M 16 (ix x1)) fun x3_5 =>
      (f_X5_has 2 x3_5 M).bind fun r_6 =>
      if (b2i r_6) = 0 then
        (f_X6_found (-1000006 : Int32) M).bind fun r_10 =>
        some (r_10.1, r_10.2)
      else
        ck (vp_in x3_5 6) <|
        (f_X6_isUnder (M 3 (ix x3_5)) x2 M).bind fun r_8 =>
        if (b2i r_8) = 0 then
          (f_X6_found (-1000003 : Int32) M).bind fun r_9 =>
          some (r_9.1, r_9.2)
        else
          some (x3_5, M)
noncomputable def f_X6_isSheet (x0 : Int32) (M : Mem) : Option (Bool) :=
  if x0 < 0 then
    some false
  else
    if (4 : Int32) ≤ x0 then
      some false
    else
      some true
noncomputable def f_X6_isWidth (x0 : Int32) (M : Mem) : Option (Bool) :=
  if x0 = 0 then
    some true
  else
    if x0 = (8 : Int32) then
      some true
    else
      if x0 = (16 : Int32) then
        some true
      else
        if x0 = (32 : Int32) then
          some true
        else
          some false
noncomputable def f_X6_sheet (x1 : Int32) (x2 : Int32) (x3 : Int32) (M : Mem) : Option (Int32 × Mem) :=
  (f_X6_isSheet x1 M).bind fun r_1 =>
  if (b2i r_1) = 0 then
    (f_X6_found (-1000001 : Int32) M).bind fun r_2 =>
    some (r_2.1, r_2.2)
  else
    (f_X6_isWidth x2 M).bind fun r_3 =>
    if (b2i r_3) = 0 then
      (f_X6_found (-1000001 : Int32) M).bind fun r_7 =>
      some (r_7.1, r_7.2)
    else
      if 0 ≤ x3 then
        if x3 ≤ (40 : Int32) then
          (f_X1_lay x1 x2 x3 M).bind fun r_4 =>
          some (r_4.1, r_4.2)
        else
          (f_X6_found (-1000001 : Int32) M).bind fun r_5 =>
          some (r_5.1, r_5.2)
      else
        (f_X6_found (-1000007 : Int32) M).bind fun r_6 =>
        some (r_6.1, r_6.2)
noncomputable def f_X6_write (x1 : Int32) (x2 : Int32) (x3 : Int32) (M : Mem) : Option (Int32 × Mem) :=
  (f_X6_isSheet x1 M).bind fun r_1 =>
  if (b2i r_1) = 0 then
    (f_X6_found (-1000001 : Int32) M).bind fun r_8 =>
    some (r_8.1, r_8.2)
  else
    (f_X1_isMissing x1 M).bind fun r_2 =>
    if (b2i r_2) = 0 then
      if x2 < 0 then
        (f_X6_found (-1000001 : Int32) M).bind fun r_3 =>
        some (r_3.1, r_3.2)
      else
        ck (vp_in x1 4) <|
        if x2 < (M 54 (ix x1)) then
          (f_X1_note x1 x2 x3 M).bind fun r_5 =>
          some ((1 : Int32), r_5)
        else
          (f_X6_found (-1000001 : Int32) M).bind fun r_6 =>
          some (r_6.1, r_6.2)
    else
      (f_X6_found (-1000006 : Int32) M).bind fun r_7 =>
      some (r_7.1, r_7.2)
noncomputable def f_X6_copy (x1 : Int32) (x2 : Int32) (x3 : Int32) (x4 : Int32) (x5 : Int32) (M : Mem) : Option (Int32 × Mem) :=
  (f_X6_isSheet x1 M).bind fun r_1 =>
  if (b2i r_1) = 0 then
    (f_X6_found (-1000001 : Int32) M).bind fun r_2 =>
    some (r_2.1, r_2.2)
  else
    (f_X6_isSheet x3 M).bind fun r_3 =>
    if (b2i r_3) = 0 then
      (f_X6_found (-1000001 : Int32) M).bind fun r_16 =>
      some (r_16.1, r_16.2)
    else
      (f_X1_isMissing x1 M).bind fun r_4 =>
      if (b2i r_4) = 0 then
        (f_X1_isMissing x3 M).bind fun r_6 =>
        if (b2i r_6) = 0 then
          ck (vp_in x1 4) <|
          ck (vp_in x3 4) <|
          if (M 53 (ix x1)) = (M 53 (ix x3)) then
            (f_X1_hasFrom x1 x2 x5 M).bind fun r_9 =>
            if (b2i r_9) = 0 then
              (f_X6_found (-1000001 : Int32) M).bind fun r_10 =>
              some (r_10.1, r_10.2)
            else
              (f_X1_hasFrom x3 x4 x5 M).bind fun r_11 =>
              if (b2i r_11) = 0 then
                (f_X6_found (-1000001 : Int32) M).bind fun r_13 =>
                some (r_13.1, r_13.2)
              else
                (f_X1_move x1 x2 x3 x4 x5 M).bind fun r_12 =>
                some (x5, r_12)
          else
            (f_X6_found (-1000003 : Int32) M).bind fun r_14 =>
            some (r_14.1, r_14.2)
        else
          (f_X6_found (-1000006 : Int32) M).bind fun r_15 =>
          some (r_15.1, r_15.2)
      else
        (f_X6_found (-1000006 : Int32) M).bind fun r_5 =>
        some (r_5.1, r_5.2)
noncomputable def f_X6_load_b57 (k57 : Int32 → Int32 → Int32 → Mem → Option (Int32 × Mem)) (x1 : Int32) (x2 : Int32) (x3 : Int32) (M : Mem) : Option (Int32 × Mem) :=
  if x2 ≤ x3 then
    some (x2, M)
  else
    (f_X1_number x1 x3 M).bind fun r_7 =>
    (f_X6_isSaying r_7 M).bind fun r_8 =>
    if (b2i r_8) = 0 then
      some (x3, M)
    else
      ck (vp_in x3 8) <|
      letv (up M 10 (ix x3) r_7) fun M_10 =>
      k57 x1 x2 (x3 + (1 : Int32)) M_10
noncomputable def f_X6_load_l57 : Nat → Int32 → Int32 → Int32 → Mem → Option (Int32 × Mem) := lp (fun _ _ _ _ => none) (f_X6_load_b57)
noncomputable def f_X6_load (x1 : Int32) (M : Mem) : Option (Int32 × Mem) :=
  (f_X6_isSheet x1 M).bind fun r_1 =>
  if (b2i r_1) = 0 then
    (f_X6_found (-1000001 : Int32) M).bind fun r_6 =>
    some (r_6.1, r_6.2)
  else
    (f_X1_isMissing x1 M).bind fun r_2 =>
    if (b2i r_2) = 0 then
      ck (vp_in x1 4) <|
      letv (mnI (M 54 (ix x1)) (M 9 0)) fun x2_4 =>
      f_X6_load_l57 FU x1 x2_4 (0 : Int32) M
    else
      (f_X6_found (-1000006 : Int32) M).bind fun r_5 =>
      some (r_5.1, r_5.2)
noncomputable def f_X6_judge_b70 (k70 : Int32 → Int32 → Mem → Option (Int32 × Mem)) (x1 : Int32) (x3 : Int32) (M : Mem) : Option (Int32 × Mem) :=
  ck (vp_in x1 4) <|
  if (M 54 (ix x1)) ≤ x3 then
    some ((0 : Int32), M)
  else
    (f_X1_number x1 x3 M).bind fun r_9 =>
    (f_X6_isSaying r_9 M).bind fun r_10 =>
    if (b2i r_10) = 0 then
      some ((1 : Int32) + x3, M)
    else
      ck (vp_in (r_9 >>> ((5 : Int32) &&& 31)) 128) <|
      if ((M 58 (ix (r_9 >>> ((5 : Int32) &&& 31)))) &&& ((1 : Int32) <<< ((r_9 &&& (31 : Int32)) &&& 31))) = 0 then
        some ((1 : Int32) + x3, M)
      else
        k70 x1 (x3 + (1 : Int32)) M
noncomputable def f_X6_judge_l70 : Nat → Int32 → Int32 → Mem → Option (Int32 × Mem) := lp (fun _ _ _ => none) (f_X6_judge_b70)
noncomputable def f_X6_judge (x1 : Int32) (x2 : Int32) (M : Mem) : Option (Int32 × Mem) :=
  (f_X6_isSheet x1 M).bind fun r_1 =>
  if (b2i r_1) = 0 then
    (f_X6_found (-1000001 : Int32) M).bind fun r_7 =>
    some (r_7.1, r_7.2)
  else
    (f_X1_isMissing x1 M).bind fun r_2 =>
    if (b2i r_2) = 0 then
      (f_X5_has 2 x2 M).bind fun r_3 =>
      if (b2i r_3) = 0 then
        (f_X6_found (-1000001 : Int32) M).bind fun r_5 =>
        some (r_5.1, r_5.2)
      else
        (f_X5_reach 2 x2 58 M).bind fun r_4 =>
        f_X6_judge_l70 FU x1 (0 : Int32) r_4
    else
      (f_X6_found (-1000006 : Int32) M).bind fun r_6 =>
      some (r_6.1, r_6.2)
noncomputable def f_X6_image (M : Mem) : Option (Int32 × Mem) :=
  (f_X4_become 33 1 M).bind fun r_1 =>
  letv (up r_1 0 3 (1 : Int32)) fun M_2 =>
  some ((1 : Int32), M_2)
noncomputable def f_X6_undo (M : Mem) : Option (Int32 × Mem) :=
  if (M 0 3) = 0 then
    (f_X6_found (-1000004 : Int32) M).bind fun r_2 =>
    some (r_2.1, r_2.2)
  else
    (f_X4_become 1 33 M).bind fun r_1 =>
    some (r_1 1 3, r_1)
noncomputable def f_X6_tear (M : Mem) : Option (Int32 × Mem) :=
  if (M 0 3) = 0 then
    letv (up M 0 3 (0 : Int32)) fun M_1 =>
    some ((0 : Int32), M_1)
  else
    letv (up M 0 3 (0 : Int32)) fun M_2 =>
    some ((1 : Int32), M_2)
noncomputable def f_X6_count (x1 : Int32) (M : Mem) : Option (Int32 × Mem) :=
  if x1 = (0 : Int32) then
    some (M 2 0, M)
  else
    if x1 = (1 : Int32) then
      some (M 9 0, M)
    else
      if x1 = (2 : Int32) then
        (f_X0_howManyLettered 9 M).bind fun r_1 =>
        some (r_1, M)
      else
        if x1 = (3 : Int32) then
          (f_X5_allPurses 2 M).bind fun r_2 =>
          some (r_2, M)
        else
          if x1 = (4 : Int32) then
            (f_X0_howManyLies 9 M).bind fun r_3 =>
            some (r_3, M)
          else
            if x1 = (5 : Int32) then
              some (M 49 1, M)
            else
              if x1 = (6 : Int32) then
                some (M 1 5, M)
              else
                if x1 = (7 : Int32) then
                  (f_X4_howManySpots 1 M).bind fun r_4 =>
                  some (r_4, M)
                else
                  (f_X6_found (-1000001 : Int32) M).bind fun r_5 =>
                  some (r_5.1, r_5.2)
noncomputable def f_X6_status_b33 (k33 : Int32 → Int32 → Mem → Option (Int32 × Mem)) (x2 : Int32) (x3 : Int32) (M : Mem) : Option (Int32 × Mem) :=
  if (7 : Int32) ≤ x3 then
    some (x2, M)
  else
    ck (vp_in x3 7) <|
    letv (x2 + (M 56 (ix x3))) fun x2_5 =>
    k33 x2_5 (x3 + (1 : Int32)) M
noncomputable def f_X6_status_l33 : Nat → Int32 → Int32 → Mem → Option (Int32 × Mem) := lp (fun _ _ _ => none) (f_X6_status_b33)
noncomputable def f_X6_status (x1 : Int32) (M : Mem) : Option (Int32 × Mem) :=
  if x1 < 0 then
    if x1 = (-1 : Int32) then
      f_X6_status_l33 FU (0 : Int32) (0 : Int32) M
    else
      (f_X6_found (-1000001 : Int32) M).bind fun r_1 =>
      some (r_1.1, r_1.2)
  else
    if (7 : Int32) ≤ x1 then
      if x1 = (-1 : Int32) then
        f_X6_status_l33 FU (0 : Int32) (0 : Int32) M
      else
        (f_X6_found (-1000001 : Int32) M).bind fun r_2 =>
        some (r_2.1, r_2.2)
    else
      ck (vp_in x1 7) <|
      some (M 56 (ix x1), M)
noncomputable def f_X7_in (y0 : Int64) (y2 : Int64) (y4 : Int64) (M : Mem) : Option (Bool) :=
  if (lg_cmp y0 y2) < 0 then
    some false
  else
    if 0 < (lg_cmp y0 y4) then
      some false
    else
      some true
noncomputable def f_X7_finds (x1 : Int32) (M : Mem) : Option (Int32 × Mem) :=
  ck (vp_in ((-1000001 : Int32) - x1) 7) <|
  ck (vp_in ((-1000001 : Int32) - x1) 7) <|
  letv (up M 63 (ix ((-1000001 : Int32) - x1)) ((M 63 (ix ((-1000001 : Int32) - x1))) + (1 : Int32))) fun M_3 =>
  some (x1, M_3)
noncomputable def f_X7_isSaying (x0 : Int32) (M : Mem) : Option (Bool) :=
  (f_X7_in (Int32.toInt64 x0) (0 : Int64) (4095 : Int64) M).bind fun r_1 =>
  some r_1
noncomputable def f_X7_isMark (x0 : Int32) (M : Mem) : Option (Bool) :=
  (f_X7_in (Int32.toInt64 x0) (0 : Int64) (11 : Int64) M).bind fun r_1 =>
  some r_1
noncomputable def f_X7_isWriter (x1 : Int32) (M : Mem) : Option (Bool) :=
  ck (vp_in (0 : Int32) 99) <|
  (f_X7_in (Int32.toInt64 x1) (0 : Int64) (Int32.toInt64 ((M 60 (ix (0 : Int32))) - (1 : Int32))) M).bind fun r_2 =>
  some r_2
noncomputable def f_X7_isPerson (x1 : Int32) (M : Mem) : Option (Bool) :=
  ck (vp_in (1 : Int32) 99) <|
  (f_X7_in (Int32.toInt64 x1) (0 : Int64) (Int32.toInt64 ((M 60 (ix (1 : Int32))) - (1 : Int32))) M).bind fun r_2 =>
  some r_2
noncomputable def f_X7_has (x0 : Int32) (x1 : Int32) (M : Mem) : Option (Bool) :=
  if ((x0 >>> (x1 &&& 31)) &&& (1 : Int32)) = (1 : Int32) then
    some true
  else
    some false
noncomputable def f_X7_ones_b4 (k4 : Int32 → Int32 → Mem → Option (Int32)) (x1 : Int32) (x2 : Int32) (M : Mem) : Option (Int32) :=
  if x2 = 0 then
    some x1
  else
    letv (x2 &&& (x2 - (1 : Int32))) fun x2_1 =>
    k4 (x1 + (1 : Int32)) x2_1 M
noncomputable def f_X7_ones_l4 : Nat → Int32 → Int32 → Mem → Option (Int32) := lp (fun _ _ _ => none) (f_X7_ones_b4)
noncomputable def f_X7_ones (x0 : Int32) (M : Mem) : Option (Int32) :=
  f_X7_ones_l4 FU (0 : Int32) x0 M
noncomputable def f_X7_draw (M : Mem) : Option (Int32 × Mem) :=
  ck (vp_in (2 : Int32) 99) <|
  ck (vp_in (2 : Int32) 99) <|
  letv (up M 60 (ix (2 : Int32)) (((M 60 (ix (2 : Int32))) * (1103515245 : Int32)) + (12345 : Int32))) fun M_3 =>
  ck (vp_in (2 : Int32) 99) <|
  some ((Int32.toUInt32 (M_3 60 (ix (2 : Int32))) >>> (Int32.toUInt32 (8 : Int32) &&& Int32.toUInt32 31)).toInt32, M_3)
noncomputable def f_X7_saves_b2 (k2 : Int32 → Mem → Option (Mem)) (x1 : Int32) (M : Mem) : Option (Mem) :=
  if (99 : Int32) ≤ x1 then
    some M
  else
    ck (vp_in x1 99) <|
    ck (vp_in x1 99) <|
    letv (up M 62 (ix x1) (M 60 (ix x1))) fun M_3 =>
    k2 (x1 + (1 : Int32)) M_3
noncomputable def f_X7_saves_l2 : Nat → Int32 → Mem → Option (Mem) := lp (fun _ _ => none) (f_X7_saves_b2)
noncomputable def f_X7_saves (M : Mem) : Option (Mem) :=
  f_X7_saves_l2 FU (0 : Int32) M
noncomputable def f_X7_putsBack_b2 (k2 : Int32 → Mem → Option (Mem)) (x1 : Int32) (M : Mem) : Option (Mem) :=
  if (99 : Int32) ≤ x1 then
    some M
  else
    ck (vp_in x1 99) <|
    ck (vp_in x1 99) <|
    letv (up M 60 (ix x1) (M 62 (ix x1))) fun M_3 =>
    k2 (x1 + (1 : Int32)) M_3
noncomputable def f_X7_putsBack_l2 : Nat → Int32 → Mem → Option (Mem) := lp (fun _ _ => none) (f_X7_putsBack_b2)
noncomputable def f_X7_putsBack (M : Mem) : Option (Mem) :=
  f_X7_putsBack_l2 FU (0 : Int32) M
noncomputable def f_X7_at (x0 : Int32) (x1 : Int32) (M : Mem) : Option (Int32) :=
  some (((5 : Int32) + ((6 : Int32) * x0)) + x1)
noncomputable def f_X7_its (x1 : Int32) (x2 : Int32) (M : Mem) : Option (Int32) :=
  (f_X7_at x1 x2 M).bind fun r_1 =>
  ck (vp_in r_1 99) <|
  some (M 60 (ix r_1))
noncomputable def f_X7_isLaw (x0 : Int32) (x1 : Int32) (M : Mem) : Option (Bool) :=
  if x0 = (0 : Int32) then
    (f_X7_in (Int32.toInt64 x1) (0 : Int64) (6 : Int64) M).bind fun r_1 =>
    some r_1
  else
    if x0 = (4 : Int32) then
      (f_X7_in (Int32.toInt64 x1) (0 : Int64) (99 : Int64) M).bind fun r_2 =>
      some r_2
    else
      (f_X7_in (Int32.toInt64 x0) (1 : Int64) (3 : Int64) M).bind fun r_3 =>
      if (b2i r_3) = 0 then
        some false
      else
        (f_X7_isSaying x1 M).bind fun r_4 =>
        if (b2i r_4) = 0 then
          some false
        else
          some true
noncomputable def f_X7_newWriter_b9 (k9 : Int32 → Int32 → Int32 → Mem → Option (Int32 × Mem)) (x1 : Int32) (x2 : Int32) (x3 : Int32) (M : Mem) : Option (Int32 × Mem) :=
  if (6 : Int32) ≤ x3 then
    (f_X7_at x2 (0 : Int32) M).bind fun r_3 =>
    ck (vp_in r_3 99) <|
    letv (up M 60 (ix r_3) x1) fun M_5 =>
    (f_X7_at x2 (4 : Int32) M_5).bind fun r_6 =>
    ck (vp_in r_6 99) <|
    letv (up M_5 60 (ix r_6) (4 : Int32)) fun M_8 =>
    ck (vp_in (0 : Int32) 99) <|
    ck (vp_in (0 : Int32) 99) <|
    letv (up M_8 60 (ix (0 : Int32)) ((M_8 60 (ix (0 : Int32))) + (1 : Int32))) fun M_11 =>
    some (x2, M_11)
  else
    (f_X7_at x2 x3 M).bind fun r_12 =>
    ck (vp_in r_12 99) <|
    letv (up M 60 (ix r_12) (0 : Int32)) fun M_14 =>
    k9 x1 x2 (x3 + (1 : Int32)) M_14
noncomputable def f_X7_newWriter_l9 : Nat → Int32 → Int32 → Int32 → Mem → Option (Int32 × Mem) := lp (fun _ _ _ _ => none) (f_X7_newWriter_b9)
noncomputable def f_X7_newWriter (x1 : Int32) (M : Mem) : Option (Int32 × Mem) :=
  ck (vp_in (0 : Int32) 99) <|
  letv (M 60 (ix (0 : Int32))) fun x2_2 =>
  f_X7_newWriter_l9 FU x1 x2_2 (0 : Int32) M
noncomputable def f_X7_writer (x1 : Int32) (M : Mem) : Option (Int32 × Mem) :=
  (f_X7_isLaw (0 : Int32) x1 M).bind fun r_1 =>
  if (b2i r_1) = 0 then
    (f_X7_finds (-1000001 : Int32) M).bind fun r_5 =>
    some (r_5.1, r_5.2)
  else
    ck (vp_in (0 : Int32) 99) <|
    if (M 60 (ix (0 : Int32))) = (6 : Int32) then
      (f_X7_finds (-1000002 : Int32) M).bind fun r_4 =>
      some (r_4.1, r_4.2)
    else
      (f_X7_newWriter x1 M).bind fun r_3 =>
      some (r_3.1, r_3.2)
noncomputable def f_X7_writerOf (x1 : Int32) (x2 : Int32) (M : Mem) : Option (Int32 × Mem) :=
  (f_X7_isWriter x1 M).bind fun r_1 =>
  if (b2i r_1) = 0 then
    (f_X7_finds (-1000001 : Int32) M).bind fun r_2 =>
    some (r_2.1, r_2.2)
  else
    (f_X7_in (Int32.toInt64 x2) (0 : Int64) (5 : Int64) M).bind fun r_3 =>
    if (b2i r_3) = 0 then
      (f_X7_finds (-1000001 : Int32) M).bind fun r_4 =>
      some (r_4.1, r_4.2)
    else
      (f_X7_its x1 x2 M).bind fun r_5 =>
      some (r_5, M)
noncomputable def f_X7_law (x1 : Int32) (x2 : Int32) (x3 : Int32) (M : Mem) : Option (Int32 × Mem) :=
  (f_X7_isWriter x1 M).bind fun r_1 =>
  if (b2i r_1) = 0 then
    (f_X7_finds (-1000001 : Int32) M).bind fun r_2 =>
    some (r_2.1, r_2.2)
  else
    (f_X7_isLaw x2 x3 M).bind fun r_3 =>
    if (b2i r_3) = 0 then
      (f_X7_finds (-1000001 : Int32) M).bind fun r_8 =>
      some (r_8.1, r_8.2)
    else
      (f_X7_its x1 x2 M).bind fun r_4 =>
      (f_X7_at x1 x2 M).bind fun r_5 =>
      ck (vp_in r_5 99) <|
      letv (up M 60 (ix r_5) x3) fun M_7 =>
      some (r_4, M_7)
noncomputable def f_X7_where (x0 : Int32) (x1 : Int32) (M : Mem) : Option (Int32) :=
  some (((41 : Int32) + ((5 : Int32) * x0)) + x1)
noncomputable def f_X7_told (x1 : Int32) (x2 : Int32) (M : Mem) : Option (Int32) :=
  (f_X7_where x1 x2 M).bind fun r_1 =>
  ck (vp_in r_1 99) <|
  some (M 60 (ix r_1))
noncomputable def f_X7_newPerson (x1 : Int32) (M : Mem) : Option (Int32 × Mem) :=
  ck (vp_in (1 : Int32) 99) <|
  letv (M 60 (ix (1 : Int32))) fun x2_2 =>
  (f_X7_where x2_2 (0 : Int32) M).bind fun r_3 =>
  ck (vp_in r_3 99) <|
  letv (up M 60 (ix r_3) (0 : Int32)) fun M_5 =>
  (f_X7_where x2_2 (1 : Int32) M_5).bind fun r_6 =>
  ck (vp_in r_6 99) <|
  letv (up M_5 60 (ix r_6) (0 : Int32)) fun M_8 =>
  (f_X7_where x2_2 (2 : Int32) M_8).bind fun r_9 =>
  ck (vp_in r_9 99) <|
  letv (up M_8 60 (ix r_9) x1) fun M_11 =>
  (f_X7_where x2_2 (3 : Int32) M_11).bind fun r_12 =>
  ck (vp_in r_12 99) <|
  letv (up M_11 60 (ix r_12) (100 : Int32)) fun M_14 =>
  (f_X7_where x2_2 (4 : Int32) M_14).bind fun r_15 =>
  ck (vp_in r_15 99) <|
  letv (up M_14 60 (ix r_15) (0 : Int32)) fun M_17 =>
  ck (vp_in ((81 : Int32) + x2_2) 99) <|
  letv (up M_17 60 (ix ((81 : Int32) + x2_2)) (0 : Int32)) fun M_19 =>
  ck (vp_in (1 : Int32) 99) <|
  ck (vp_in (1 : Int32) 99) <|
  letv (up M_19 60 (ix (1 : Int32)) ((M_19 60 (ix (1 : Int32))) + (1 : Int32))) fun M_22 =>
  some (x2_2, M_22)
noncomputable def f_X7_person (x1 : Int32) (M : Mem) : Option (Int32 × Mem) :=
  (f_X7_isWriter x1 M).bind fun r_1 =>
  if (b2i r_1) = 0 then
    (f_X7_finds (-1000001 : Int32) M).bind fun r_5 =>
    some (r_5.1, r_5.2)
  else
    ck (vp_in (1 : Int32) 99) <|
    if (M 60 (ix (1 : Int32))) = (8 : Int32) then
      (f_X7_finds (-1000002 : Int32) M).bind fun r_4 =>
      some (r_4.1, r_4.2)
    else
      (f_X7_newPerson x1 M).bind fun r_3 =>
      some (r_3.1, r_3.2)
noncomputable def f_X7_anybody_b4 (k4 : Int32 → Int32 → Int32 → Mem → Option (Int32)) (x1 : Int32) (x2 : Int32) (x3 : Int32) (M : Mem) : Option (Int32) :=
  ck (vp_in (1 : Int32) 99) <|
  if (M 60 (ix (1 : Int32))) ≤ x3 then
    some x2
  else
    (f_X7_told x3 x1 M).bind fun r_2 =>
    letv (x2 ||| r_2) fun x2_3 =>
    k4 x1 x2_3 (x3 + (1 : Int32)) M
noncomputable def f_X7_anybody_l4 : Nat → Int32 → Int32 → Int32 → Mem → Option (Int32) := lp (fun _ _ _ _ => none) (f_X7_anybody_b4)
noncomputable def f_X7_anybody (x1 : Int32) (M : Mem) : Option (Int32) :=
  f_X7_anybody_l4 FU x1 (0 : Int32) (0 : Int32) M
noncomputable def f_X7_lies (x1 : Int32) (M : Mem) : Option (Int32) :=
  (f_X7_told x1 (1 : Int32) M).bind fun r_1 =>
  (f_X7_anybody (0 : Int32) M).bind fun r_2 =>
  some (r_1 &&& (r_2 ^^^ (-1 : Int32)))
noncomputable def f_X7_of (x1 : Int32) (x2 : Int32) (M : Mem) : Option (Int32 × Mem) :=
  (f_X7_isPerson x1 M).bind fun r_1 =>
  if (b2i r_1) = 0 then
    (f_X7_finds (-1000001 : Int32) M).bind fun r_2 =>
    some (r_2.1, r_2.2)
  else
    (f_X7_in (Int32.toInt64 x2) (0 : Int64) (5 : Int64) M).bind fun r_3 =>
    if (b2i r_3) = 0 then
      (f_X7_finds (-1000001 : Int32) M).bind fun r_6 =>
      some (r_6.1, r_6.2)
    else
      if (5 : Int32) ≤ x2 then
        (f_X7_lies x1 M).bind fun r_4 =>
        some (r_4, M)
      else
        (f_X7_told x1 x2 M).bind fun r_5 =>
        some (r_5, M)
noncomputable def f_X7_isPart (x1 : Int32) (x2 : Int32) (M : Mem) : Option (Bool) :=
  if x1 = (0 : Int32) then
    (f_X7_isSaying x2 M).bind fun r_1 =>
    some r_1
  else
    if x1 = (1 : Int32) then
      (f_X7_isSaying x2 M).bind fun r_2 =>
      some r_2
    else
      if x1 = (2 : Int32) then
        (f_X7_isWriter x2 M).bind fun r_3 =>
        some r_3
      else
        if x1 = (3 : Int32) then
          (f_X7_in (Int32.toInt64 x2) (0 : Int64) (99999 : Int64) M).bind fun r_4 =>
          some r_4
        else
          if x1 = (4 : Int32) then
            (f_X7_in (Int32.toInt64 x2) (0 : Int64) (1 : Int64) M).bind fun r_5 =>
            if (b2i r_5) = 0 then
              some false
            else
              some true
          else
            some false
noncomputable def f_X7_change (x1 : Int32) (x2 : Int32) (x3 : Int32) (M : Mem) : Option (Int32 × Mem) :=
  (f_X7_isPerson x1 M).bind fun r_1 =>
  if (b2i r_1) = 0 then
    (f_X7_finds (-1000001 : Int32) M).bind fun r_2 =>
    some (r_2.1, r_2.2)
  else
    (f_X7_isPart x2 x3 M).bind fun r_3 =>
    if (b2i r_3) = 0 then
      (f_X7_finds (-1000001 : Int32) M).bind fun r_8 =>
      some (r_8.1, r_8.2)
    else
      (f_X7_told x1 x2 M).bind fun r_4 =>
      (f_X7_where x1 x2 M).bind fun r_5 =>
      ck (vp_in r_5 99) <|
      letv (up M 60 (ix r_5) x3) fun M_7 =>
      some (r_4, M_7)
noncomputable def f_X7_isTwo (x1 : Int32) (x2 : Int32) (M : Mem) : Option (Bool) :=
  (f_X7_isPerson x1 M).bind fun r_1 =>
  if (b2i r_1) = 0 then
    some false
  else
    (f_X7_isPerson x2 M).bind fun r_2 =>
    if (b2i r_2) = 0 then
      some false
    else
      if x1 = x2 then
        some false
      else
        some true
noncomputable def f_X7_joins_j43 (x1 : Int32) (x2 : Int32) (x3 : Int32) (t1 : Int32) (t2 : Int32) (M : Mem) : Option (Mem) :=
  ck (vp_in t1 99) <|
  letv (up M 60 (ix t1) t2) fun M_4 =>
  if x3 = 0 then
    ck (vp_in ((81 : Int32) + x2) 99) <|
    ck (vp_in ((81 : Int32) + x2) 99) <|
    letv (up M_4 60 (ix ((81 : Int32) + x2)) ((M_4 60 (ix ((81 : Int32) + x2))) &&& (((1 : Int32) <<< (x1 &&& 31)) ^^^ (-1 : Int32)))) fun M_7 =>
    some M_7
  else
    ck (vp_in ((81 : Int32) + x2) 99) <|
    ck (vp_in ((81 : Int32) + x2) 99) <|
    letv (up M_4 60 (ix ((81 : Int32) + x2)) ((M_4 60 (ix ((81 : Int32) + x2))) ||| ((1 : Int32) <<< (x1 &&& 31)))) fun M_10 =>
    some M_10
noncomputable def f_X7_joins (x1 : Int32) (x2 : Int32) (x3 : Int32) (M : Mem) : Option (Mem) :=
  if x3 = 0 then
    ck (vp_in ((81 : Int32) + x1) 99) <|
    f_X7_joins_j43 x1 x2 x3 ((81 : Int32) + x1) ((M 60 (ix ((81 : Int32) + x1))) &&& (((1 : Int32) <<< (x2 &&& 31)) ^^^ (-1 : Int32))) M
  else
    ck (vp_in ((81 : Int32) + x1) 99) <|
    f_X7_joins_j43 x1 x2 x3 ((81 : Int32) + x1) ((M 60 (ix ((81 : Int32) + x1))) ||| ((1 : Int32) <<< (x2 &&& 31))) M
noncomputable def f_X7_tie (x1 : Int32) (x2 : Int32) (x3 : Int32) (M : Mem) : Option (Int32 × Mem) :=
  (f_X7_isTwo x1 x2 M).bind fun r_1 =>
  if (b2i r_1) = 0 then
    (f_X7_finds (-1000001 : Int32) M).bind fun r_6 =>
    some (r_6.1, r_6.2)
  else
    ck (vp_in ((81 : Int32) + x1) 99) <|
    (f_X7_has (M 60 (ix ((81 : Int32) + x1))) x2 M).bind fun r_3 =>
    if (b2i r_3) = 0 then
      (f_X7_joins x1 x2 x3 M).bind fun r_4 =>
      some ((0 : Int32), r_4)
    else
      (f_X7_joins x1 x2 x3 M).bind fun r_5 =>
      some ((1 : Int32), r_5)
noncomputable def f_X7_ties (x1 : Int32) (M : Mem) : Option (Int32 × Mem) :=
  (f_X7_isPerson x1 M).bind fun r_1 =>
  if (b2i r_1) = 0 then
    (f_X7_finds (-1000001 : Int32) M).bind fun r_2 =>
    some (r_2.1, r_2.2)
  else
    ck (vp_in ((81 : Int32) + x1) 99) <|
    some (M 60 (ix ((81 : Int32) + x1)), M)
noncomputable def f_X7_leastOf_b7 (k7 : Int32 → Int32 → Int32 → Int32 → Mem → Option (Int32)) (x1 : Int32) (x2 : Int32) (x3 : Int32) (x4 : Int32) (M : Mem) : Option (Int32) :=
  if x1 ≤ x4 then
    some x3
  else
    if x2 = 0 then
      some x3
    else
      letv (x3 ||| (x2 &&& ((0 : Int32) - x2))) fun x3_1 =>
      letv (x2 &&& (x2 - (1 : Int32))) fun x2_2 =>
      k7 x1 x2_2 x3_1 (x4 + (1 : Int32)) M
noncomputable def f_X7_leastOf_l7 : Nat → Int32 → Int32 → Int32 → Int32 → Mem → Option (Int32) := lp (fun _ _ _ _ _ => none) (f_X7_leastOf_b7)
noncomputable def f_X7_leastOf (x0 : Int32) (x1 : Int32) (M : Mem) : Option (Int32) :=
  f_X7_leastOf_l7 FU x1 x0 (0 : Int32) (0 : Int32) M
noncomputable def f_X7_plainOf (x1 : Int32) (x2 : Int32) (M : Mem) : Option (Int32) :=
  (f_X7_its x1 (1 : Int32) M).bind fun r_1 =>
  (f_X7_its x1 (3 : Int32) M).bind fun r_2 =>
  if (x2 &&& r_2) = 0 then
    some ((x2 &&& (r_1 ^^^ (-1 : Int32))) ||| (0 : Int32))
  else
    (f_X7_its x1 (2 : Int32) M).bind fun r_3 =>
    some ((x2 &&& (r_1 ^^^ (-1 : Int32))) ||| r_3)
noncomputable def f_X7_softened (x0 : Int32) (M : Mem) : Option (Int32) :=
  some ((x0 &&& (255 : Int32)) ||| ((x0 >>> ((8 : Int32) &&& 31)) <<< ((4 : Int32) &&& 31)))
noncomputable def f_X7_putBy (x1 : Int32) (x2 : Int32) (M : Mem) : Option (Int32) :=
  (f_X7_plainOf x1 x2 M).bind fun r_1 =>
  (f_X7_its x1 (0 : Int32) M).bind fun r_2 =>
  if r_2 = (1 : Int32) then
    (f_X7_softened r_1 M).bind fun r_3 =>
    some r_3
  else
    if r_2 = (2 : Int32) then
      (f_X7_leastOf r_1 (4 : Int32) M).bind fun r_4 =>
      some r_4
    else
      if r_2 = (3 : Int32) then
        (f_X7_softened r_1 M).bind fun r_5 =>
        (f_X7_its x1 (2 : Int32) M).bind fun r_6 =>
        some (r_5 ||| r_6)
      else
        if r_2 = (4 : Int32) then
          (f_X7_leastOf r_1 (4 : Int32) M).bind fun r_7 =>
          some (r_7 ||| (1 : Int32))
        else
          if r_2 = (5 : Int32) then
            (f_X7_plainOf x1 (x2 &&& (1365 : Int32)) M).bind fun r_8 =>
            some r_8
          else
            if r_2 = (6 : Int32) then
              (f_X7_leastOf r_1 (2 : Int32) M).bind fun r_9 =>
              some r_9
            else
              some r_1
noncomputable def f_X7_puts (x1 : Int32) (x2 : Int32) (M : Mem) : Option (Int32 × Mem) :=
  (f_X7_isWriter x1 M).bind fun r_1 =>
  if (b2i r_1) = 0 then
    (f_X7_finds (-1000001 : Int32) M).bind fun r_2 =>
    some (r_2.1, r_2.2)
  else
    (f_X7_isSaying x2 M).bind fun r_3 =>
    if (b2i r_3) = 0 then
      (f_X7_finds (-1000001 : Int32) M).bind fun r_4 =>
      some (r_4.1, r_4.2)
    else
      (f_X7_putBy x1 x2 M).bind fun r_5 =>
      some (r_5, M)
noncomputable def f_X7_ownOf (x1 : Int32) (M : Mem) : Option (Int32) :=
  (f_X7_told x1 (0 : Int32) M).bind fun r_1 =>
  (f_X7_told x1 (1 : Int32) M).bind fun r_2 =>
  some (r_1 ||| r_2)
noncomputable def f_X7_says (x1 : Int32) (M : Mem) : Option (Int32 × Mem) :=
  (f_X7_isPerson x1 M).bind fun r_1 =>
  if (b2i r_1) = 0 then
    (f_X7_finds (-1000001 : Int32) M).bind fun r_2 =>
    some (r_2.1, r_2.2)
  else
    (f_X7_ownOf x1 M).bind fun r_3 =>
    some (r_3, M)
noncomputable def f_X7_through (x1 : Int32) (x2 : Int32) (M : Mem) : Option (Int32) :=
  (f_X7_told x1 (4 : Int32) M).bind fun r_1 =>
  if r_1 = (1 : Int32) then
    some x2
  else
    (f_X7_told x1 (2 : Int32) M).bind fun r_2 =>
    (f_X7_putBy r_2 x2 M).bind fun r_3 =>
    some r_3
noncomputable def f_X7_read (x1 : Int32) (x2 : Int32) (x3 : Int32) (M : Mem) : Option (Int32 × Mem) :=
  (f_X7_isTwo x1 x2 M).bind fun r_1 =>
  if (b2i r_1) = 0 then
    (f_X7_finds (-1000001 : Int32) M).bind fun r_2 =>
    some (r_2.1, r_2.2)
  else
    (f_X7_isSaying x3 M).bind fun r_3 =>
    if (b2i r_3) = 0 then
      (f_X7_finds (-1000001 : Int32) M).bind fun r_4 =>
      some (r_4.1, r_4.2)
    else
      (f_X7_through x1 x3 M).bind fun r_5 =>
      (f_X7_through x2 r_5 M).bind fun r_6 =>
      some (r_6, M)
noncomputable def f_X7_costOf (x1 : Int32) (M : Mem) : Option (Int32) :=
  (f_X7_told x1 (4 : Int32) M).bind fun r_1 =>
  if r_1 = (1 : Int32) then
    some (0 : Int32)
  else
    (f_X7_told x1 (2 : Int32) M).bind fun r_2 =>
    (f_X7_its r_2 (4 : Int32) M).bind fun r_3 =>
    some r_3
noncomputable def f_X7_pays (x1 : Int32) (M : Mem) : Option (Mem) :=
  (f_X7_costOf x1 M).bind fun r_1 =>
  (f_X7_where x1 (3 : Int32) M).bind fun r_2 =>
  ck (vp_in r_2 99) <|
  ck (vp_in r_2 99) <|
  letv (up M 60 (ix r_2) ((M 60 (ix r_2)) - r_1)) fun M_5 =>
  (f_X7_told x1 (2 : Int32) M_5).bind fun r_6 =>
  (f_X7_at r_6 (5 : Int32) M_5).bind fun r_7 =>
  ck (vp_in r_7 99) <|
  ck (vp_in r_7 99) <|
  letv (up M_5 60 (ix r_7) ((M_5 60 (ix r_7)) + r_1)) fun M_10 =>
  some M_10
noncomputable def f_X7_letter (x1 : Int32) (x2 : Int32) (x3 : Int32) (M : Mem) : Option (Int32 × Mem) :=
  (f_X7_told x1 (3 : Int32) M).bind fun r_1 =>
  (f_X7_costOf x1 M).bind fun r_2 =>
  if r_1 < r_2 then
    some ((-1 : Int32), M)
  else
    (f_X7_told x2 (3 : Int32) M).bind fun r_3 =>
    (f_X7_costOf x2 M).bind fun r_4 =>
    if r_4 ≤ r_3 then
      (f_X7_through x1 x3 M).bind fun r_5 =>
      (f_X7_through x2 r_5 M).bind fun r_6 =>
      (f_X7_where x2 (1 : Int32) M).bind fun r_7 =>
      ck (vp_in r_7 99) <|
      ck (vp_in r_7 99) <|
      letv (up M 60 (ix r_7) ((M 60 (ix r_7)) ||| r_6)) fun M_10 =>
      (f_X7_pays x1 M_10).bind fun r_11 =>
      (f_X7_pays x2 r_11).bind fun r_12 =>
      (f_X7_told x1 (4 : Int32) r_12).bind fun r_13 =>
      (f_X7_told x2 (4 : Int32) r_12).bind fun r_14 =>
      letv (up r_12 59 5 ((r_12 59 5) + (((2 : Int32) - r_13) - r_14))) fun M_15 =>
      ck (vp_in (4 : Int32) 99) <|
      ck (vp_in (4 : Int32) 99) <|
      letv (up M_15 60 (ix (4 : Int32)) ((M_15 60 (ix (4 : Int32))) + (1 : Int32))) fun M_18 =>
      some (r_6, M_18)
    else
      some ((-1 : Int32), M)
noncomputable def f_X7_send (x1 : Int32) (x2 : Int32) (x3 : Int32) (M : Mem) : Option (Int32 × Mem) :=
  (f_X7_isTwo x1 x2 M).bind fun r_1 =>
  if (b2i r_1) = 0 then
    (f_X7_finds (-1000001 : Int32) M).bind fun r_2 =>
    some (r_2.1, r_2.2)
  else
    (f_X7_isSaying x3 M).bind fun r_3 =>
    if (b2i r_3) = 0 then
      (f_X7_finds (-1000001 : Int32) M).bind fun r_6 =>
      some (r_6.1, r_6.2)
    else
      (f_X7_letter x1 x2 x3 M).bind fun r_4 =>
      if 0 ≤ r_4.1 then
        some (r_4.1, r_4.2)
      else
        (f_X7_finds (-1000005 : Int32) r_4.2).bind fun r_5 =>
        some (r_5.1, r_5.2)
noncomputable def f_X7_year_b16 (k2 : Int32 → Mem → Option (Mem)) (k16 : Int32 → Int32 → Mem → Option (Mem)) (x1 : Int32) (x2 : Int32) (M : Mem) : Option (Mem) :=
  ck (vp_in (1 : Int32) 99) <|
  if (M 60 (ix (1 : Int32))) ≤ x2 then
    k2 (x1 + (1 : Int32)) M
  else
    ck (vp_in ((81 : Int32) + x1) 99) <|
    (f_X7_has (M 60 (ix ((81 : Int32) + x1))) x2 M).bind fun r_8 =>
    if (b2i r_8) = 0 then
      k16 x1 (x2 + (1 : Int32)) M
    else
      (f_X7_ownOf x1 M).bind fun r_9 =>
      (f_X7_letter x1 x2 r_9 M).bind fun r_10 =>
      (f_X7_ownOf x2 r_10.2).bind fun r_11 =>
      (f_X7_letter x2 x1 r_11 r_10.2).bind fun r_12 =>
      k16 x1 (x2 + (1 : Int32)) r_12.2
noncomputable def f_X7_year_l16 (k2 : Int32 → Mem → Option (Mem)) : Nat → Int32 → Int32 → Mem → Option (Mem) := lp (fun _ _ _ => none) (f_X7_year_b16 k2)
noncomputable def f_X7_year_b2 (k2 : Int32 → Mem → Option (Mem)) (x1 : Int32) (M : Mem) : Option (Mem) :=
  ck (vp_in (1 : Int32) 99) <|
  if (M 60 (ix (1 : Int32))) ≤ x1 then
    ck (vp_in (3 : Int32) 99) <|
    ck (vp_in (3 : Int32) 99) <|
    letv (up M 60 (ix (3 : Int32)) ((M 60 (ix (3 : Int32))) + (1 : Int32))) fun M_4 =>
    some M_4
  else
    letv (x1 + (1 : Int32)) fun x2_5 =>
    f_X7_year_l16 k2 FU x1 x2_5 M
noncomputable def f_X7_year_l2 : Nat → Int32 → Mem → Option (Mem) := lp (fun _ _ => none) (f_X7_year_b2)
noncomputable def f_X7_year (M : Mem) : Option (Mem) :=
  f_X7_year_l2 FU (0 : Int32) M
noncomputable def f_X7_yearsGo_b9 (k9 : Int32 → Int32 → Int32 → Mem → Option (Int32 × Mem)) (x1 : Int32) (x2 : Int32) (x3 : Int32) (M : Mem) : Option (Int32 × Mem) :=
  if x1 ≤ x3 then
    ck (vp_in (4 : Int32) 99) <|
    some ((M 60 (ix (4 : Int32))) - x2, M)
  else
    (f_X7_year M).bind fun r_4 =>
    k9 x1 x2 (x3 + (1 : Int32)) r_4
noncomputable def f_X7_yearsGo_l9 : Nat → Int32 → Int32 → Int32 → Mem → Option (Int32 × Mem) := lp (fun _ _ _ _ => none) (f_X7_yearsGo_b9)
noncomputable def f_X7_yearsGo (x1 : Int32) (M : Mem) : Option (Int32 × Mem) :=
  ck (vp_in (4 : Int32) 99) <|
  letv (M 60 (ix (4 : Int32))) fun x2_2 =>
  f_X7_yearsGo_l9 FU x1 x2_2 (0 : Int32) M
noncomputable def f_X7_isTooLate (x1 : Int32) (M : Mem) : Option (Bool) :=
  ck (vp_in (3 : Int32) 99) <|
  if ((M 60 (ix (3 : Int32))) + x1) ≤ (999 : Int32) then
    some false
  else
    some true
noncomputable def f_X7_years (x1 : Int32) (M : Mem) : Option (Int32 × Mem) :=
  (f_X7_in (Int32.toInt64 x1) (1 : Int64) (30 : Int64) M).bind fun r_1 =>
  if (b2i r_1) = 0 then
    (f_X7_finds (-1000001 : Int32) M).bind fun r_5 =>
    some (r_5.1, r_5.2)
  else
    (f_X7_isTooLate x1 M).bind fun r_2 =>
    if (b2i r_2) = 0 then
      (f_X7_yearsGo x1 M).bind fun r_3 =>
      some (r_3.1, r_3.2)
    else
      (f_X7_finds (-1000005 : Int32) M).bind fun r_4 =>
      some (r_4.1, r_4.2)
noncomputable def f_X7_money_b31 (k31 : Int32 → Int32 → Mem → Option (Int32)) (x1 : Int32) (x2 : Int32) (M : Mem) : Option (Int32) :=
  ck (vp_in (0 : Int32) 99) <|
  if (M 60 (ix (0 : Int32))) ≤ x2 then
    some x1
  else
    (f_X7_its x2 (5 : Int32) M).bind fun r_5 =>
    letv (x1 + r_5) fun x1_6 =>
    k31 x1_6 (x2 + (1 : Int32)) M
noncomputable def f_X7_money_l31 : Nat → Int32 → Int32 → Mem → Option (Int32) := lp (fun _ _ _ => none) (f_X7_money_b31)
noncomputable def f_X7_money_b4 (k4 : Int32 → Int32 → Mem → Option (Int32)) (x1 : Int32) (x2 : Int32) (M : Mem) : Option (Int32) :=
  ck (vp_in (1 : Int32) 99) <|
  if (M 60 (ix (1 : Int32))) ≤ x2 then
    f_X7_money_l31 FU x1 (0 : Int32) M
  else
    (f_X7_told x2 (3 : Int32) M).bind fun r_2 =>
    letv (x1 + r_2) fun x1_3 =>
    k4 x1_3 (x2 + (1 : Int32)) M
noncomputable def f_X7_money_l4 : Nat → Int32 → Int32 → Mem → Option (Int32) := lp (fun _ _ _ => none) (f_X7_money_b4)
noncomputable def f_X7_money (M : Mem) : Option (Int32) :=
  f_X7_money_l4 FU (0 : Int32) (0 : Int32) M
noncomputable def f_X7_tieMany_b4 (k4 : Int32 → Int32 → Mem → Option (Int32)) (x1 : Int32) (x2 : Int32) (M : Mem) : Option (Int32) :=
  ck (vp_in (1 : Int32) 99) <|
  if (M 60 (ix (1 : Int32))) ≤ x2 then
    some (x1 / (2 : Int32))
  else
    ck (vp_in ((81 : Int32) + x2) 99) <|
    (f_X7_ones (M 60 (ix ((81 : Int32) + x2))) M).bind fun r_3 =>
    letv (x1 + r_3) fun x1_4 =>
    k4 x1_4 (x2 + (1 : Int32)) M
noncomputable def f_X7_tieMany_l4 : Nat → Int32 → Int32 → Mem → Option (Int32) := lp (fun _ _ _ => none) (f_X7_tieMany_b4)
noncomputable def f_X7_tieMany (M : Mem) : Option (Int32) :=
  f_X7_tieMany_l4 FU (0 : Int32) (0 : Int32) M
noncomputable def f_X7_now (x1 : Int32) (M : Mem) : Option (Int32 × Mem) :=
  if x1 = (0 : Int32) then
    ck (vp_in (3 : Int32) 99) <|
    some (M 60 (ix (3 : Int32)), M)
  else
    if x1 = (1 : Int32) then
      ck (vp_in (4 : Int32) 99) <|
      some (M 60 (ix (4 : Int32)), M)
    else
      if x1 = (2 : Int32) then
        (f_X7_tieMany M).bind fun r_3 =>
        some (r_3, M)
      else
        if x1 = (3 : Int32) then
          (f_X7_anybody (0 : Int32) M).bind fun r_4 =>
          some (r_4, M)
        else
          if x1 = (4 : Int32) then
            (f_X7_anybody (1 : Int32) M).bind fun r_5 =>
            some (r_5, M)
          else
            if x1 = (5 : Int32) then
              (f_X7_money M).bind fun r_6 =>
              some (r_6, M)
            else
              (f_X7_finds (-1000001 : Int32) M).bind fun r_7 =>
              some (r_7.1, r_7.2)
noncomputable def f_X7_whoBelieves_b4 (k4 : Int32 → Int32 → Int32 → Mem → Option (Int32)) (x1 : Int32) (x2 : Int32) (x3 : Int32) (M : Mem) : Option (Int32) :=
  ck (vp_in (1 : Int32) 99) <|
  if (M 60 (ix (1 : Int32))) ≤ x3 then
    some x2
  else
    (f_X7_told x3 (1 : Int32) M).bind fun r_2 =>
    (f_X7_has r_2 x1 M).bind fun r_3 =>
    if (b2i r_3) = 0 then
      letv (x2 ||| (0 : Int32)) fun x2_4 =>
      k4 x1 x2_4 (x3 + (1 : Int32)) M
    else
      letv (x2 ||| ((1 : Int32) <<< (x3 &&& 31))) fun x2_5 =>
      k4 x1 x2_5 (x3 + (1 : Int32)) M
noncomputable def f_X7_whoBelieves_l4 : Nat → Int32 → Int32 → Int32 → Mem → Option (Int32) := lp (fun _ _ _ _ => none) (f_X7_whoBelieves_b4)
noncomputable def f_X7_whoBelieves (x1 : Int32) (M : Mem) : Option (Int32) :=
  f_X7_whoBelieves_l4 FU x1 (0 : Int32) (0 : Int32) M
noncomputable def f_X7_who (x1 : Int32) (M : Mem) : Option (Int32 × Mem) :=
  (f_X7_isMark x1 M).bind fun r_1 =>
  if (b2i r_1) = 0 then
    (f_X7_finds (-1000001 : Int32) M).bind fun r_2 =>
    some (r_2.1, r_2.2)
  else
    (f_X7_whoBelieves x1 M).bind fun r_3 =>
    some (r_3, M)
noncomputable def f_X7_poor_b4 (k4 : Int32 → Int32 → Mem → Option (Int32)) (x1 : Int32) (x2 : Int32) (M : Mem) : Option (Int32) :=
  ck (vp_in (1 : Int32) 99) <|
  if (M 60 (ix (1 : Int32))) ≤ x2 then
    some x1
  else
    (f_X7_told x2 (3 : Int32) M).bind fun r_2 =>
    (f_X7_costOf x2 M).bind fun r_3 =>
    if r_3 ≤ r_2 then
      letv (x1 ||| (0 : Int32)) fun x1_4 =>
      k4 x1_4 (x2 + (1 : Int32)) M
    else
      letv (x1 ||| ((1 : Int32) <<< (x2 &&& 31))) fun x1_5 =>
      k4 x1_5 (x2 + (1 : Int32)) M
noncomputable def f_X7_poor_l4 : Nat → Int32 → Int32 → Mem → Option (Int32) := lp (fun _ _ _ => none) (f_X7_poor_b4)
noncomputable def f_X7_poor (M : Mem) : Option (Int32) :=
  f_X7_poor_l4 FU (0 : Int32) (0 : Int32) M
noncomputable def f_X7_everybody_b19 (k19 : Int32 → Int32 → Mem → Option (Int32)) (x1 : Int32) (x2 : Int32) (M : Mem) : Option (Int32) :=
  ck (vp_in (1 : Int32) 99) <|
  if (M 60 (ix (1 : Int32))) ≤ x2 then
    some x1
  else
    (f_X7_told x2 (1 : Int32) M).bind fun r_3 =>
    letv (x1 &&& r_3) fun x1_4 =>
    k19 x1_4 (x2 + (1 : Int32)) M
noncomputable def f_X7_everybody_l19 : Nat → Int32 → Int32 → Mem → Option (Int32) := lp (fun _ _ _ => none) (f_X7_everybody_b19)
noncomputable def f_X7_everybody (M : Mem) : Option (Int32) :=
  ck (vp_in (1 : Int32) 99) <|
  if (M 60 (ix (1 : Int32))) = 0 then
    f_X7_everybody_l19 FU (0 : Int32) (0 : Int32) M
  else
    f_X7_everybody_l19 FU (4095 : Int32) (0 : Int32) M
noncomputable def f_X7_isSpan (x0 : Int32) (M : Mem) : Option (Bool) :=
  (f_X7_in (Int32.toInt64 x0) (0 : Int64) (60 : Int64) M).bind fun r_1 =>
  some r_1
noncomputable def f_X7_ahead (x1 : Int32) (x2 : Int32) (M : Mem) : Option (Int32 × Mem) :=
  (f_X7_isSpan x1 M).bind fun r_1 =>
  if (b2i r_1) = 0 then
    (f_X7_finds (-1000001 : Int32) M).bind fun r_2 =>
    some (r_2.1, r_2.2)
  else
    ck (vp_in (1 : Int32) 99) <|
    (f_X7_in (Int32.toInt64 x2) (0 : Int64) (Int32.toInt64 ((2 : Int32) + (M 60 (ix (1 : Int32))))) M).bind fun r_4 =>
    if (b2i r_4) = 0 then
      (f_X7_finds (-1000001 : Int32) M).bind fun r_16 =>
      some (r_16.1, r_16.2)
    else
      (f_X7_isTooLate x1 M).bind fun r_5 =>
      if (b2i r_5) = 0 then
        (f_X7_saves M).bind fun r_6 =>
        (f_X7_yearsGo x1 r_6).bind fun r_7 =>
        if x2 = 0 then
          (f_X7_putsBack r_7.2).bind fun r_14 =>
          some (r_7.1, r_14)
        else
          if x2 = (1 : Int32) then
            (f_X7_poor r_7.2).bind fun r_12 =>
            (f_X7_putsBack r_7.2).bind fun r_13 =>
            some (r_12, r_13)
          else
            if x2 = (2 : Int32) then
              (f_X7_everybody r_7.2).bind fun r_10 =>
              (f_X7_putsBack r_7.2).bind fun r_11 =>
              some (r_10, r_11)
            else
              (f_X7_told (x2 - (3 : Int32)) (1 : Int32) r_7.2).bind fun r_8 =>
              (f_X7_putsBack r_7.2).bind fun r_9 =>
              some (r_8, r_9)
      else
        (f_X7_finds (-1000005 : Int32) M).bind fun r_15 =>
        some (r_15.1, r_15.2)
noncomputable def f_X7_when_b44 (k44 : Int32 → Int32 → Int32 → Mem → Option (Int32 × Mem)) (x1 : Int32) (x2 : Int32) (x3 : Int32) (M : Mem) : Option (Int32 × Mem) :=
  if (61 : Int32) ≤ x3 then
    (f_X7_putsBack M).bind fun r_8 =>
    if x3 ≤ (60 : Int32) then
      some (x3, r_8)
    else
      (f_X7_finds (-1000004 : Int32) r_8).bind fun r_9 =>
      some (r_9.1, r_9.2)
  else
    (f_X7_told x1 (1 : Int32) M).bind fun r_10 =>
    (f_X7_has r_10 x2 M).bind fun r_11 =>
    if (b2i r_11) = 0 then
      (f_X7_year M).bind fun r_14 =>
      k44 x1 x2 (x3 + (1 : Int32)) r_14
    else
      (f_X7_putsBack M).bind fun r_12 =>
      if x3 ≤ (60 : Int32) then
        some (x3, r_12)
      else
        (f_X7_finds (-1000004 : Int32) r_12).bind fun r_13 =>
        some (r_13.1, r_13.2)
noncomputable def f_X7_when_l44 : Nat → Int32 → Int32 → Int32 → Mem → Option (Int32 × Mem) := lp (fun _ _ _ _ => none) (f_X7_when_b44)
noncomputable def f_X7_when (x1 : Int32) (x2 : Int32) (M : Mem) : Option (Int32 × Mem) :=
  (f_X7_isPerson x1 M).bind fun r_1 =>
  if (b2i r_1) = 0 then
    (f_X7_finds (-1000001 : Int32) M).bind fun r_2 =>
    some (r_2.1, r_2.2)
  else
    (f_X7_isMark x2 M).bind fun r_3 =>
    if (b2i r_3) = 0 then
      (f_X7_finds (-1000001 : Int32) M).bind fun r_7 =>
      some (r_7.1, r_7.2)
    else
      (f_X7_isTooLate (60 : Int32) M).bind fun r_4 =>
      if (b2i r_4) = 0 then
        (f_X7_saves M).bind fun r_5 =>
        f_X7_when_l44 FU x1 x2 (0 : Int32) r_5
      else
        (f_X7_finds (-1000005 : Int32) M).bind fun r_6 =>
        some (r_6.1, r_6.2)
noncomputable def f_X7_believers (x1 : Int32) (x2 : Int32) (x3 : Int32) (M : Mem) : Option (Int32 × Mem) :=
  (f_X7_saves M).bind fun r_1 =>
  if x1 < 0 then
    (f_X7_yearsGo x3 r_1).bind fun r_2 =>
    (f_X7_whoBelieves x2 r_2.2).bind fun r_3 =>
    (f_X7_putsBack r_2.2).bind fun r_4 =>
    some (r_3, r_4)
  else
    (f_X7_at x1 (2 : Int32) r_1).bind fun r_5 =>
    ck (vp_in r_5 99) <|
    letv (up r_1 60 (ix r_5) (0 : Int32)) fun M_7 =>
    (f_X7_yearsGo x3 M_7).bind fun r_8 =>
    (f_X7_whoBelieves x2 r_8.2).bind fun r_9 =>
    (f_X7_putsBack r_8.2).bind fun r_10 =>
    some (r_9, r_10)
noncomputable def f_X7_without (x1 : Int32) (x2 : Int32) (x3 : Int32) (M : Mem) : Option (Int32 × Mem) :=
  (f_X7_isWriter x1 M).bind fun r_1 =>
  if (b2i r_1) = 0 then
    (f_X7_finds (-1000001 : Int32) M).bind fun r_2 =>
    some (r_2.1, r_2.2)
  else
    (f_X7_isMark x2 M).bind fun r_3 =>
    if (b2i r_3) = 0 then
      (f_X7_finds (-1000001 : Int32) M).bind fun r_4 =>
      some (r_4.1, r_4.2)
    else
      (f_X7_isSpan x3 M).bind fun r_5 =>
      if (b2i r_5) = 0 then
        (f_X7_finds (-1000001 : Int32) M).bind fun r_9 =>
        some (r_9.1, r_9.2)
      else
        (f_X7_isTooLate x3 M).bind fun r_6 =>
        if (b2i r_6) = 0 then
          (f_X7_believers x1 x2 x3 M).bind fun r_7 =>
          some (r_7.1, r_7.2)
        else
          (f_X7_finds (-1000005 : Int32) M).bind fun r_8 =>
          some (r_8.1, r_8.2)
noncomputable def f_X7_added_b53 (k53 : Int32 → Int32 → Int32 → Int32 → Int32 → Mem → Option (Int32 × Mem)) (x1 : Int32) (x2 : Int32) (x3 : Int32) (x4 : Int32) (x5 : Int32) (M : Mem) : Option (Int32 × Mem) :=
  ck (vp_in (0 : Int32) 99) <|
  if (M 60 (ix (0 : Int32))) ≤ x5 then
    some (x4, M)
  else
    (f_X7_believers x5 x1 x2 M).bind fun r_10 =>
    (f_X7_ones r_10.1 r_10.2).bind fun r_11 =>
    if x3 ≤ r_11 then
      letv (x4 ||| (0 : Int32)) fun x4_12 =>
      k53 x1 x2 x3 x4_12 (x5 + (1 : Int32)) r_10.2
    else
      letv (x4 ||| ((1 : Int32) <<< (x5 &&& 31))) fun x4_13 =>
      k53 x1 x2 x3 x4_13 (x5 + (1 : Int32)) r_10.2
noncomputable def f_X7_added_l53 : Nat → Int32 → Int32 → Int32 → Int32 → Int32 → Mem → Option (Int32 × Mem) := lp (fun _ _ _ _ _ _ => none) (f_X7_added_b53)
noncomputable def f_X7_added (x1 : Int32) (x2 : Int32) (M : Mem) : Option (Int32 × Mem) :=
  (f_X7_isMark x1 M).bind fun r_1 =>
  if (b2i r_1) = 0 then
    (f_X7_finds (-1000001 : Int32) M).bind fun r_2 =>
    some (r_2.1, r_2.2)
  else
    (f_X7_isSpan x2 M).bind fun r_3 =>
    if (b2i r_3) = 0 then
      (f_X7_finds (-1000001 : Int32) M).bind fun r_8 =>
      some (r_8.1, r_8.2)
    else
      (f_X7_isTooLate x2 M).bind fun r_4 =>
      if (b2i r_4) = 0 then
        (f_X7_believers (-1 : Int32) x1 x2 M).bind fun r_5 =>
        (f_X7_ones r_5.1 r_5.2).bind fun r_6 =>
        f_X7_added_l53 FU x1 x2 r_6 (0 : Int32) (0 : Int32) r_5.2
      else
        (f_X7_finds (-1000005 : Int32) M).bind fun r_7 =>
        some (r_7.1, r_7.2)
noncomputable def f_X7_best_j117 (k51 : Int32 → Int32 → Int32 → Int32 → Int32 → Int32 → Mem → Option (Int32 × Mem)) (x1 : Int32) (x2 : Int32) (x3 : Int32) (x5 : Int32) (x6 : Int32) (x8 : Int32) (t0 : Int32) (M : Mem) : Option (Int32 × Mem) :=
  if x8 ≤ x5 then
    k51 x1 x2 x3 t0 x5 (x6 + (1 : Int32)) M
  else
    k51 x1 x2 x3 t0 x8 (x6 + (1 : Int32)) M
noncomputable def f_X7_best_b51 (k51 : Int32 → Int32 → Int32 → Int32 → Int32 → Int32 → Mem → Option (Int32 × Mem)) (x1 : Int32) (x2 : Int32) (x3 : Int32) (x4 : Int32) (x5 : Int32) (x6 : Int32) (M : Mem) : Option (Int32 × Mem) :=
  ck (vp_in (0 : Int32) 99) <|
  if (M 60 (ix (0 : Int32))) ≤ x6 then
    some (x4, M)
  else
    (f_X7_where x1 (2 : Int32) M).bind fun r_9 =>
    ck (vp_in r_9 99) <|
    letv (up M 60 (ix r_9) x6) fun M_11 =>
    (f_X7_yearsGo x3 M_11).bind fun r_12 =>
    (f_X7_told x1 (0 : Int32) r_12.2).bind fun r_13 =>
    (f_X7_told x2 (1 : Int32) r_12.2).bind fun r_14 =>
    (f_X7_ones (r_13 &&& r_14) r_12.2).bind fun r_15 =>
    (f_X7_putsBack r_12.2).bind fun r_16 =>
    if r_15 ≤ x5 then
      f_X7_best_j117 k51 x1 x2 x3 x5 x6 r_15 x4 r_16
    else
      f_X7_best_j117 k51 x1 x2 x3 x5 x6 r_15 x6 r_16
noncomputable def f_X7_best_l51 : Nat → Int32 → Int32 → Int32 → Int32 → Int32 → Int32 → Mem → Option (Int32 × Mem) := lp (fun _ _ _ _ _ _ _ => none) (f_X7_best_b51)
noncomputable def f_X7_best (x1 : Int32) (x2 : Int32) (x3 : Int32) (M : Mem) : Option (Int32 × Mem) :=
  (f_X7_isTwo x1 x2 M).bind fun r_1 =>
  if (b2i r_1) = 0 then
    (f_X7_finds (-1000001 : Int32) M).bind fun r_2 =>
    some (r_2.1, r_2.2)
  else
    (f_X7_isSpan x3 M).bind fun r_3 =>
    if (b2i r_3) = 0 then
      (f_X7_finds (-1000001 : Int32) M).bind fun r_7 =>
      some (r_7.1, r_7.2)
    else
      (f_X7_isTooLate x3 M).bind fun r_4 =>
      if (b2i r_4) = 0 then
        (f_X7_saves M).bind fun r_5 =>
        f_X7_best_l51 FU x1 x2 x3 (0 : Int32) (-1 : Int32) (0 : Int32) r_5
      else
        (f_X7_finds (-1000005 : Int32) M).bind fun r_6 =>
        some (r_6.1, r_6.2)
noncomputable def f_X7_bridge_j139 (k44 : Int32 → Int32 → Int32 → Int32 → Int32 → Mem → Option (Int32 × Mem)) (k61 : Int32 → Int32 → Int32 → Int32 → Int32 → Int32 → Mem → Option (Int32 × Mem)) (x1 : Int32) (x2 : Int32) (x4 : Int32) (x5 : Int32) (x6 : Int32) (x7 : Int32) (t0 : Int32) (M : Mem) : Option (Int32 × Mem) :=
  if x7 ≤ x4 then
    k61 x1 x2 t0 x4 x5 (x6 + (1 : Int32)) M
  else
    k61 x1 x2 t0 x7 x5 (x6 + (1 : Int32)) M
noncomputable def f_X7_bridge_b61 (k44 : Int32 → Int32 → Int32 → Int32 → Int32 → Mem → Option (Int32 × Mem)) (k61 : Int32 → Int32 → Int32 → Int32 → Int32 → Int32 → Mem → Option (Int32 × Mem)) (x1 : Int32) (x2 : Int32) (x3 : Int32) (x4 : Int32) (x5 : Int32) (x6 : Int32) (M : Mem) : Option (Int32 × Mem) :=
  ck (vp_in (1 : Int32) 99) <|
  if (M 60 (ix (1 : Int32))) ≤ x6 then
    k44 x1 x2 x3 x4 (x5 + (1 : Int32)) M
  else
    ck (vp_in ((81 : Int32) + x5) 99) <|
    (f_X7_has (M 60 (ix ((81 : Int32) + x5))) x6 M).bind fun r_12 =>
    if (b2i r_12) = 0 then
      (f_X7_joins x5 x6 (1 : Int32) M).bind fun r_13 =>
      (f_X7_believers (-1 : Int32) x1 x2 r_13).bind fun r_14 =>
      (f_X7_ones r_14.1 r_14.2).bind fun r_15 =>
      (f_X7_joins x5 x6 (0 : Int32) r_14.2).bind fun r_16 =>
      if r_15 ≤ x4 then
        f_X7_bridge_j139 k44 k61 x1 x2 x4 x5 x6 r_15 x3 r_16
      else
        f_X7_bridge_j139 k44 k61 x1 x2 x4 x5 x6 r_15 (((10 : Int32) * x5) + x6) r_16
    else
      k61 x1 x2 x3 x4 x5 (x6 + (1 : Int32)) M
noncomputable def f_X7_bridge_l61 (k44 : Int32 → Int32 → Int32 → Int32 → Int32 → Mem → Option (Int32 × Mem)) : Nat → Int32 → Int32 → Int32 → Int32 → Int32 → Int32 → Mem → Option (Int32 × Mem) := lp (fun _ _ _ _ _ _ _ => none) (f_X7_bridge_b61 k44)
noncomputable def f_X7_bridge_b44 (k44 : Int32 → Int32 → Int32 → Int32 → Int32 → Mem → Option (Int32 × Mem)) (x1 : Int32) (x2 : Int32) (x3 : Int32) (x4 : Int32) (x5 : Int32) (M : Mem) : Option (Int32 × Mem) :=
  ck (vp_in (1 : Int32) 99) <|
  if (M 60 (ix (1 : Int32))) ≤ x5 then
    if 0 ≤ x3 then
      some (x3, M)
    else
      (f_X7_finds (-1000004 : Int32) M).bind fun r_8 =>
      some (r_8.1, r_8.2)
  else
    letv (x5 + (1 : Int32)) fun x6_9 =>
    f_X7_bridge_l61 k44 FU x1 x2 x3 x4 x5 x6_9 M
noncomputable def f_X7_bridge_l44 : Nat → Int32 → Int32 → Int32 → Int32 → Int32 → Mem → Option (Int32 × Mem) := lp (fun _ _ _ _ _ _ => none) (f_X7_bridge_b44)
noncomputable def f_X7_bridge (x1 : Int32) (x2 : Int32) (M : Mem) : Option (Int32 × Mem) :=
  (f_X7_isMark x1 M).bind fun r_1 =>
  if (b2i r_1) = 0 then
    (f_X7_finds (-1000001 : Int32) M).bind fun r_2 =>
    some (r_2.1, r_2.2)
  else
    (f_X7_isSpan x2 M).bind fun r_3 =>
    if (b2i r_3) = 0 then
      (f_X7_finds (-1000001 : Int32) M).bind fun r_6 =>
      some (r_6.1, r_6.2)
    else
      (f_X7_isTooLate x2 M).bind fun r_4 =>
      if (b2i r_4) = 0 then
        f_X7_bridge_l44 FU x1 x2 (-1 : Int32) (-1 : Int32) (0 : Int32) M
      else
        (f_X7_finds (-1000005 : Int32) M).bind fun r_5 =>
        some (r_5.1, r_5.2)
noncomputable def f_X7_findSaid_j67 (k31 : Int32 → Int32 → Int32 → Int32 → Mem → Option (Mem)) (x1 : Int32) (x2 : Int32) (x3 : Int32) (x4 : Int32) (t1 : Int32) (M : Mem) : Option (Mem) :=
  letv (up M 59 7 t1) fun M_7 =>
  letv (up M_7 59 6 ((M_7 59 6) + (1 : Int32))) fun M_8 =>
  letv (up M_8 59 8 ((M_8 59 8) &&& x4)) fun M_9 =>
  letv (up M_9 59 9 ((M_9 59 9) ||| x4)) fun M_10 =>
  (f_X7_ones (x4 ^^^ x3) M_10).bind fun r_11 =>
  if (M_10 59 10) ≤ r_11 then
    letv (up M_10 59 10 (M_10 59 10)) fun M_12 =>
    k31 x1 x2 x3 (x4 + (1 : Int32)) M_12
  else
    letv (up M_10 59 10 r_11) fun M_13 =>
    k31 x1 x2 x3 (x4 + (1 : Int32)) M_13
noncomputable def f_X7_findSaid_b31 (k31 : Int32 → Int32 → Int32 → Int32 → Mem → Option (Mem)) (x1 : Int32) (x2 : Int32) (x3 : Int32) (x4 : Int32) (M : Mem) : Option (Mem) :=
  if (4096 : Int32) ≤ x4 then
    some M
  else
    (f_X7_putBy x1 x4 M).bind fun r_6 =>
    if r_6 = x2 then
      if (M 59 6) = 0 then
        f_X7_findSaid_j67 k31 x1 x2 x3 x4 x4 M
      else
        f_X7_findSaid_j67 k31 x1 x2 x3 x4 (M 59 7) M
    else
      k31 x1 x2 x3 (x4 + (1 : Int32)) M
noncomputable def f_X7_findSaid_l31 : Nat → Int32 → Int32 → Int32 → Int32 → Mem → Option (Mem) := lp (fun _ _ _ _ _ => none) (f_X7_findSaid_b31)
noncomputable def f_X7_findSaid (x1 : Int32) (x2 : Int32) (x3 : Int32) (M : Mem) : Option (Mem) :=
  letv (up M 59 6 (0 : Int32)) fun M_1 =>
  letv (up M_1 59 7 (-1 : Int32)) fun M_2 =>
  letv (up M_2 59 8 (4095 : Int32)) fun M_3 =>
  letv (up M_3 59 9 (0 : Int32)) fun M_4 =>
  letv (up M_4 59 10 (99 : Int32)) fun M_5 =>
  f_X7_findSaid_l31 FU x1 x2 x3 (0 : Int32) M_5
noncomputable def f_X7_many (x1 : Int32) (x2 : Int32) (M : Mem) : Option (Int32 × Mem) :=
  (f_X7_isWriter x1 M).bind fun r_1 =>
  if (b2i r_1) = 0 then
    (f_X7_finds (-1000001 : Int32) M).bind fun r_2 =>
    some (r_2.1, r_2.2)
  else
    (f_X7_isSaying x2 M).bind fun r_3 =>
    if (b2i r_3) = 0 then
      (f_X7_finds (-1000001 : Int32) M).bind fun r_5 =>
      some (r_5.1, r_5.2)
    else
      (f_X7_findSaid x1 x2 (0 : Int32) M).bind fun r_4 =>
      some (r_4 59 6, r_4)
noncomputable def f_X7_said (x1 : Int32) (x2 : Int32) (x3 : Int32) (M : Mem) : Option (Int32 × Mem) :=
  (f_X7_isWriter x1 M).bind fun r_1 =>
  if (b2i r_1) = 0 then
    (f_X7_finds (-1000001 : Int32) M).bind fun r_2 =>
    some (r_2.1, r_2.2)
  else
    (f_X7_isSaying x2 M).bind fun r_3 =>
    if (b2i r_3) = 0 then
      (f_X7_finds (-1000001 : Int32) M).bind fun r_4 =>
      some (r_4.1, r_4.2)
    else
      (f_X7_in (Int32.toInt64 x3) (0 : Int64) (2 : Int64) M).bind fun r_5 =>
      if (b2i r_5) = 0 then
        (f_X7_finds (-1000001 : Int32) M).bind fun r_8 =>
        some (r_8.1, r_8.2)
      else
        (f_X7_findSaid x1 x2 (0 : Int32) M).bind fun r_6 =>
        if (r_6 59 6) = 0 then
          (f_X7_finds (-1000004 : Int32) r_6).bind fun r_7 =>
          some (r_7.1, r_7.2)
        else
          if x3 = 0 then
            some (r_6 59 7, r_6)
          else
            if x3 = (1 : Int32) then
              some (r_6 59 8, r_6)
            else
              some (r_6 59 9, r_6)
noncomputable def f_X7_hands_b18 (k18 : Int32 → Int32 → Int32 → Mem → Option (Int32 × Mem)) (x1 : Int32) (x2 : Int32) (x3 : Int32) (M : Mem) : Option (Int32 × Mem) :=
  ck (vp_in (0 : Int32) 99) <|
  if (M 60 (ix (0 : Int32))) ≤ x3 then
    some (x2, M)
  else
    (f_X7_findSaid x3 x1 (0 : Int32) M).bind fun r_4 =>
    if (r_4 59 6) ≤ 0 then
      letv (x2 ||| (0 : Int32)) fun x2_5 =>
      k18 x1 x2_5 (x3 + (1 : Int32)) r_4
    else
      letv (x2 ||| ((1 : Int32) <<< (x3 &&& 31))) fun x2_6 =>
      k18 x1 x2_6 (x3 + (1 : Int32)) r_4
noncomputable def f_X7_hands_l18 : Nat → Int32 → Int32 → Int32 → Mem → Option (Int32 × Mem) := lp (fun _ _ _ _ => none) (f_X7_hands_b18)
noncomputable def f_X7_hands (x1 : Int32) (M : Mem) : Option (Int32 × Mem) :=
  (f_X7_isSaying x1 M).bind fun r_1 =>
  if (b2i r_1) = 0 then
    (f_X7_finds (-1000001 : Int32) M).bind fun r_2 =>
    some (r_2.1, r_2.2)
  else
    f_X7_hands_l18 FU x1 (0 : Int32) (0 : Int32) M
noncomputable def f_X7_likeliest_j54 (k21 : Int32 → Int32 → Int32 → Int32 → Mem → Option (Int32 × Mem)) (x1 : Int32) (x3 : Int32) (x4 : Int32) (t0 : Int32) (M : Mem) : Option (Int32 × Mem) :=
  if (M 59 6) ≤ x3 then
    k21 x1 t0 x3 (x4 + (1 : Int32)) M
  else
    letv (M 59 6) fun x3_6 =>
    k21 x1 t0 x3_6 (x4 + (1 : Int32)) M
noncomputable def f_X7_likeliest_b21 (k21 : Int32 → Int32 → Int32 → Int32 → Mem → Option (Int32 × Mem)) (x1 : Int32) (x2 : Int32) (x3 : Int32) (x4 : Int32) (M : Mem) : Option (Int32 × Mem) :=
  ck (vp_in (0 : Int32) 99) <|
  if (M 60 (ix (0 : Int32))) ≤ x4 then
    if 0 ≤ x2 then
      some (x2, M)
    else
      (f_X7_finds (-1000004 : Int32) M).bind fun r_4 =>
      some (r_4.1, r_4.2)
  else
    (f_X7_findSaid x4 x1 (0 : Int32) M).bind fun r_5 =>
    if (r_5 59 6) ≤ x3 then
      f_X7_likeliest_j54 k21 x1 x3 x4 x2 r_5
    else
      f_X7_likeliest_j54 k21 x1 x3 x4 x4 r_5
noncomputable def f_X7_likeliest_l21 : Nat → Int32 → Int32 → Int32 → Int32 → Mem → Option (Int32 × Mem) := lp (fun _ _ _ _ _ => none) (f_X7_likeliest_b21)
noncomputable def f_X7_likeliest (x1 : Int32) (M : Mem) : Option (Int32 × Mem) :=
  (f_X7_isSaying x1 M).bind fun r_1 =>
  if (b2i r_1) = 0 then
    (f_X7_finds (-1000001 : Int32) M).bind fun r_2 =>
    some (r_2.1, r_2.2)
  else
    f_X7_likeliest_l21 FU x1 (-1 : Int32) (0 : Int32) (0 : Int32) M
noncomputable def f_X7_near (x1 : Int32) (x2 : Int32) (x3 : Int32) (M : Mem) : Option (Int32 × Mem) :=
  (f_X7_isWriter x1 M).bind fun r_1 =>
  if (b2i r_1) = 0 then
    (f_X7_finds (-1000001 : Int32) M).bind fun r_2 =>
    some (r_2.1, r_2.2)
  else
    (f_X7_isSaying x2 M).bind fun r_3 =>
    if (b2i r_3) = 0 then
      (f_X7_finds (-1000001 : Int32) M).bind fun r_4 =>
      some (r_4.1, r_4.2)
    else
      (f_X7_isSaying x3 M).bind fun r_5 =>
      if (b2i r_5) = 0 then
        (f_X7_finds (-1000001 : Int32) M).bind fun r_8 =>
        some (r_8.1, r_8.2)
      else
        (f_X7_findSaid x1 x3 x2 M).bind fun r_6 =>
        if (r_6 59 6) = 0 then
          (f_X7_finds (-1000004 : Int32) r_6).bind fun r_7 =>
          some (r_7.1, r_7.2)
        else
          some (r_6 59 10, r_6)
noncomputable def f_X7_honest_b19 (k19 : Int32 → Int32 → Int32 → Mem → Option (Int32 × Mem)) (x1 : Int32) (x2 : Int32) (x3 : Int32) (M : Mem) : Option (Int32 × Mem) :=
  if (4096 : Int32) ≤ x3 then
    some (x2, M)
  else
    (f_X7_putBy x1 x3 M).bind fun r_3 =>
    if r_3 = x3 then
      letv (x2 + (1 : Int32)) fun x2_5 =>
      k19 x1 x2_5 (x3 + (1 : Int32)) M
    else
      letv (x2 + (0 : Int32)) fun x2_4 =>
      k19 x1 x2_4 (x3 + (1 : Int32)) M
noncomputable def f_X7_honest_l19 : Nat → Int32 → Int32 → Int32 → Mem → Option (Int32 × Mem) := lp (fun _ _ _ _ => none) (f_X7_honest_b19)
noncomputable def f_X7_honest (x1 : Int32) (M : Mem) : Option (Int32 × Mem) :=
  (f_X7_isWriter x1 M).bind fun r_1 =>
  if (b2i r_1) = 0 then
    (f_X7_finds (-1000001 : Int32) M).bind fun r_2 =>
    some (r_2.1, r_2.2)
  else
    f_X7_honest_l19 FU x1 (0 : Int32) (0 : Int32) M
noncomputable def f_X7_roundOf_b4 (k4 : Int32 → Int32 → Mem → Option (Int32)) (x2 : Int32) (x3 : Int32) (M : Mem) : Option (Int32) :=
  ck (vp_in (0 : Int32) 99) <|
  if (M 60 (ix (0 : Int32))) ≤ x3 then
    some x2
  else
    (f_X7_putBy x3 x2 M).bind fun r_2 =>
    k4 r_2 (x3 + (1 : Int32)) M
noncomputable def f_X7_roundOf_l4 : Nat → Int32 → Int32 → Mem → Option (Int32) := lp (fun _ _ _ => none) (f_X7_roundOf_b4)
noncomputable def f_X7_roundOf (x1 : Int32) (M : Mem) : Option (Int32) :=
  f_X7_roundOf_l4 FU x1 (0 : Int32) M
noncomputable def f_X7_round_b31 (k31 : Int32 → Int32 → Int32 → Mem → Option (Int32 × Mem)) (x2 : Int32) (x3 : Int32) (x4 : Int32) (M : Mem) : Option (Int32 × Mem) :=
  if x2 ≤ x4 then
    some (x3, M)
  else
    (f_X7_roundOf x3 M).bind fun r_5 =>
    k31 x2 r_5 (x4 + (1 : Int32)) M
noncomputable def f_X7_round_l31 : Nat → Int32 → Int32 → Int32 → Mem → Option (Int32 × Mem) := lp (fun _ _ _ _ => none) (f_X7_round_b31)
noncomputable def f_X7_round (x1 : Int32) (x2 : Int32) (M : Mem) : Option (Int32 × Mem) :=
  (f_X7_isSaying x1 M).bind fun r_1 =>
  if (b2i r_1) = 0 then
    (f_X7_finds (-1000001 : Int32) M).bind fun r_2 =>
    some (r_2.1, r_2.2)
  else
    (f_X7_in (Int32.toInt64 x2) (0 : Int64) (20 : Int64) M).bind fun r_3 =>
    if (b2i r_3) = 0 then
      (f_X7_finds (-1000001 : Int32) M).bind fun r_4 =>
      some (r_4.1, r_4.2)
    else
      f_X7_round_l31 FU x2 x1 (0 : Int32) M
noncomputable def f_X7_settles_b49 (k23 : Int32 → Mem → Option (Int32 × Mem)) (k49 : Int32 → Int32 → Mem → Option (Int32 × Mem)) (x2 : Int32) (x3 : Int32) (M : Mem) : Option (Int32 × Mem) :=
  if x2 ≤ x3 then
    k23 (x2 + (1 : Int32)) M
  else
    ck (vp_in x3 102) <|
    ck (vp_in x2 102) <|
    if (M 64 (ix x3)) = (M 64 (ix x2)) then
      some (x2, M)
    else
      k49 x2 (x3 + (1 : Int32)) M
noncomputable def f_X7_settles_l49 (k23 : Int32 → Mem → Option (Int32 × Mem)) : Nat → Int32 → Int32 → Mem → Option (Int32 × Mem) := lp (fun _ _ _ => none) (f_X7_settles_b49 k23)
noncomputable def f_X7_settles_b23 (k23 : Int32 → Mem → Option (Int32 × Mem)) (x2 : Int32) (M : Mem) : Option (Int32 × Mem) :=
  if (101 : Int32) ≤ x2 then
    (f_X7_finds (-1000004 : Int32) M).bind fun r_5 =>
    some (r_5.1, r_5.2)
  else
    ck (vp_in (x2 - (1 : Int32)) 102) <|
    (f_X7_roundOf (M 64 (ix (x2 - (1 : Int32)))) M).bind fun r_7 =>
    ck (vp_in x2 102) <|
    letv (up M 64 (ix x2) r_7) fun M_9 =>
    f_X7_settles_l49 k23 FU x2 (0 : Int32) M_9
noncomputable def f_X7_settles_l23 : Nat → Int32 → Mem → Option (Int32 × Mem) := lp (fun _ _ => none) (f_X7_settles_b23)
noncomputable def f_X7_settles (x1 : Int32) (M : Mem) : Option (Int32 × Mem) :=
  (f_X7_isSaying x1 M).bind fun r_1 =>
  if (b2i r_1) = 0 then
    (f_X7_finds (-1000001 : Int32) M).bind fun r_4 =>
    some (r_4.1, r_4.2)
  else
    ck (vp_in (0 : Int32) 102) <|
    letv (up M 64 (ix (0 : Int32)) x1) fun M_3 =>
    f_X7_settles_l23 FU (1 : Int32) M_3
noncomputable def f_X7_court (x1 : Int32) (x2 : Int32) (x3 : Int32) (M : Mem) : Option (Int32 × Mem) :=
  (f_X7_isWriter x1 M).bind fun r_1 =>
  if (b2i r_1) = 0 then
    (f_X7_finds (-1000001 : Int32) M).bind fun r_2 =>
    some (r_2.1, r_2.2)
  else
    (f_X7_isWriter x2 M).bind fun r_3 =>
    if (b2i r_3) = 0 then
      (f_X7_finds (-1000001 : Int32) M).bind fun r_4 =>
      some (r_4.1, r_4.2)
    else
      (f_X7_isSaying x3 M).bind fun r_5 =>
      if (b2i r_5) = 0 then
        (f_X7_finds (-1000001 : Int32) M).bind fun r_10 =>
        some (r_10.1, r_10.2)
      else
        (f_X7_putBy x1 x3 M).bind fun r_6 =>
        (f_X7_putBy x2 r_6 M).bind fun r_7 =>
        (f_X7_ones (x3 &&& (r_7 ^^^ (-1 : Int32))) M).bind fun r_8 =>
        (f_X7_ones (r_7 &&& (x3 ^^^ (-1 : Int32))) M).bind fun r_9 =>
        some (r_8 + ((100 : Int32) * r_9), M)
noncomputable def f_X7_witness_j95 (k24 : Int32 → Int32 → Int32 → Int32 → Mem → Option (Int32 × Mem)) (x1 : Int32) (x3 : Int32) (x4 : Int32) (x5 : Int32) (t0 : Int32) (M : Mem) : Option (Int32 × Mem) :=
  if x3 ≤ x5 then
    k24 x1 t0 x3 (x4 + (1 : Int32)) M
  else
    k24 x1 t0 x5 (x4 + (1 : Int32)) M
noncomputable def f_X7_witness_b41 (k24 : Int32 → Int32 → Int32 → Int32 → Mem → Option (Int32 × Mem)) (k41 : Int32 → Int32 → Int32 → Int32 → Int32 → Int32 → Mem → Option (Int32 × Mem)) (x1 : Int32) (x2 : Int32) (x3 : Int32) (x4 : Int32) (x5 : Int32) (x6 : Int32) (M : Mem) : Option (Int32 × Mem) :=
  if (4096 : Int32) ≤ x6 then
    if x3 ≤ x5 then
      f_X7_witness_j95 k24 x1 x3 x4 x5 x2 M
    else
      f_X7_witness_j95 k24 x1 x3 x4 x5 x4 M
  else
    (f_X7_putBy x1 x6 M).bind fun r_4 =>
    (f_X7_putBy x4 r_4 M).bind fun r_5 =>
    if r_5 = x6 then
      letv (x5 + (0 : Int32)) fun x5_7 =>
      k41 x1 x2 x3 x4 x5_7 (x6 + (1 : Int32)) M
    else
      letv (x5 + (1 : Int32)) fun x5_6 =>
      k41 x1 x2 x3 x4 x5_6 (x6 + (1 : Int32)) M
noncomputable def f_X7_witness_l41 (k24 : Int32 → Int32 → Int32 → Int32 → Mem → Option (Int32 × Mem)) : Nat → Int32 → Int32 → Int32 → Int32 → Int32 → Int32 → Mem → Option (Int32 × Mem) := lp (fun _ _ _ _ _ _ _ => none) (f_X7_witness_b41 k24)
noncomputable def f_X7_witness_b24 (k24 : Int32 → Int32 → Int32 → Int32 → Mem → Option (Int32 × Mem)) (x1 : Int32) (x2 : Int32) (x3 : Int32) (x4 : Int32) (M : Mem) : Option (Int32 × Mem) :=
  ck (vp_in (0 : Int32) 99) <|
  if (M 60 (ix (0 : Int32))) ≤ x4 then
    some (x2, M)
  else
    f_X7_witness_l41 k24 FU x1 x2 x3 x4 (0 : Int32) (0 : Int32) M
noncomputable def f_X7_witness_l24 : Nat → Int32 → Int32 → Int32 → Int32 → Mem → Option (Int32 × Mem) := lp (fun _ _ _ _ _ => none) (f_X7_witness_b24)
noncomputable def f_X7_witness (x1 : Int32) (M : Mem) : Option (Int32 × Mem) :=
  (f_X7_isWriter x1 M).bind fun r_1 =>
  if (b2i r_1) = 0 then
    (f_X7_finds (-1000001 : Int32) M).bind fun r_2 =>
    some (r_2.1, r_2.2)
  else
    f_X7_witness_l24 FU x1 (0 : Int32) (9999 : Int32) (0 : Int32) M
noncomputable def f_X7_price_j105 (k54 : Int32 → Int32 → Int32 → Int32 → Int32 → Mem → Option (Int32 × Mem)) (x1 : Int32) (x2 : Int32) (x4 : Int32) (x5 : Int32) (x7 : Int32) (t0 : Int32) (M : Mem) : Option (Int32 × Mem) :=
  if x7 ≤ x4 then
    k54 x1 x2 t0 x4 (x5 + (1 : Int32)) M
  else
    k54 x1 x2 t0 x7 (x5 + (1 : Int32)) M
noncomputable def f_X7_price_b54 (k54 : Int32 → Int32 → Int32 → Int32 → Int32 → Mem → Option (Int32 × Mem)) (x1 : Int32) (x2 : Int32) (x3 : Int32) (x4 : Int32) (x5 : Int32) (M : Mem) : Option (Int32 × Mem) :=
  if (100 : Int32) ≤ x5 then
    some (x3, M)
  else
    (f_X7_at x1 (4 : Int32) M).bind fun r_8 =>
    ck (vp_in r_8 99) <|
    letv (up M 60 (ix r_8) x5) fun M_10 =>
    (f_X7_yearsGo x2 M_10).bind fun r_11 =>
    (f_X7_its x1 (5 : Int32) r_11.2).bind fun r_12 =>
    (f_X7_putsBack r_11.2).bind fun r_13 =>
    if r_12 ≤ x4 then
      f_X7_price_j105 k54 x1 x2 x4 x5 r_12 x3 r_13
    else
      f_X7_price_j105 k54 x1 x2 x4 x5 r_12 x5 r_13
noncomputable def f_X7_price_l54 : Nat → Int32 → Int32 → Int32 → Int32 → Int32 → Mem → Option (Int32 × Mem) := lp (fun _ _ _ _ _ _ => none) (f_X7_price_b54)
noncomputable def f_X7_price (x1 : Int32) (x2 : Int32) (M : Mem) : Option (Int32 × Mem) :=
  (f_X7_isWriter x1 M).bind fun r_1 =>
  if (b2i r_1) = 0 then
    (f_X7_finds (-1000001 : Int32) M).bind fun r_2 =>
    some (r_2.1, r_2.2)
  else
    (f_X7_in (Int32.toInt64 x2) (1 : Int64) (20 : Int64) M).bind fun r_3 =>
    if (b2i r_3) = 0 then
      (f_X7_finds (-1000001 : Int32) M).bind fun r_7 =>
      some (r_7.1, r_7.2)
    else
      (f_X7_isTooLate x2 M).bind fun r_4 =>
      if (b2i r_4) = 0 then
        (f_X7_saves M).bind fun r_5 =>
        f_X7_price_l54 FU x1 x2 (0 : Int32) (-1 : Int32) (0 : Int32) r_5
      else
        (f_X7_finds (-1000005 : Int32) M).bind fun r_6 =>
        some (r_6.1, r_6.2)
noncomputable def f_X7_school_b60 (k60 : Int32 → Int32 → Int32 → Mem → Option (Int32 × Mem)) (x1 : Int32) (x2 : Int32) (x3 : Int32) (M : Mem) : Option (Int32 × Mem) :=
  ck (vp_in (1 : Int32) 99) <|
  if (M 60 (ix (1 : Int32))) ≤ x3 then
    letv (up M 59 5 (0 : Int32)) fun M_11 =>
    (f_X7_year M_11).bind fun r_12 =>
    (f_X7_putsBack r_12).bind fun r_13 =>
    some (x2 - (r_13 59 5), r_13)
  else
    (f_X7_where x3 (4 : Int32) M).bind fun r_14 =>
    ck (vp_in r_14 99) <|
    letv (up M 60 (ix r_14) (1 : Int32)) fun M_16 =>
    letv (x3 + x1) fun x3_17 =>
    k60 x1 x2 x3_17 M_16
noncomputable def f_X7_school_l60 : Nat → Int32 → Int32 → Int32 → Mem → Option (Int32 × Mem) := lp (fun _ _ _ _ => none) (f_X7_school_b60)
noncomputable def f_X7_school (x1 : Int32) (M : Mem) : Option (Int32 × Mem) :=
  (f_X7_in (Int32.toInt64 x1) (2 : Int64) (8 : Int64) M).bind fun r_1 =>
  if (b2i r_1) = 0 then
    (f_X7_finds (-1000001 : Int32) M).bind fun r_9 =>
    some (r_9.1, r_9.2)
  else
    (f_X7_isTooLate (1 : Int32) M).bind fun r_2 =>
    if (b2i r_2) = 0 then
      (f_X7_saves M).bind fun r_3 =>
      letv (up r_3 59 5 (0 : Int32)) fun M_4 =>
      (f_X7_year M_4).bind fun r_5 =>
      letv (r_5 59 5) fun x2_6 =>
      (f_X7_putsBack r_5).bind fun r_7 =>
      f_X7_school_l60 FU x1 x2_6 (0 : Int32) r_7
    else
      (f_X7_finds (-1000005 : Int32) M).bind fun r_8 =>
      some (r_8.1, r_8.2)
noncomputable def f_X7_gossip_b37 (k37 : Int32 → Int32 → Mem → Option (Int32 × Mem)) (x1 : Int32) (x2 : Int32) (M : Mem) : Option (Int32 × Mem) :=
  if x1 ≤ x2 then
    (f_X7_anybody (1 : Int32) M).bind fun r_5 =>
    some (r_5, M)
  else
    (f_X7_draw M).bind fun r_6 =>
    ck (vp_in (1 : Int32) 99) <|
    ck (¬ (r_6.2 60 (ix (1 : Int32))) = 0) <|
    letv (r_6.1 - r_6.1 / (r_6.2 60 (ix (1 : Int32))) * (r_6.2 60 (ix (1 : Int32)))) fun x3_9 =>
    (f_X7_where x3_9 (1 : Int32) r_6.2).bind fun r_10 =>
    ck (vp_in r_10 99) <|
    (f_X7_draw r_6.2).bind fun r_12 =>
    ck (vp_in r_10 99) <|
    letv (up r_12.2 60 (ix r_10) ((r_6.2 60 (ix r_10)) ||| ((1 : Int32) <<< ((r_12.1 - r_12.1 / (12 : Int32) * (12 : Int32)) &&& 31)))) fun M_14 =>
    k37 x1 (x2 + (1 : Int32)) M_14
noncomputable def f_X7_gossip_l37 : Nat → Int32 → Int32 → Mem → Option (Int32 × Mem) := lp (fun _ _ _ => none) (f_X7_gossip_b37)
noncomputable def f_X7_gossip (x1 : Int32) (M : Mem) : Option (Int32 × Mem) :=
  (f_X7_in (Int32.toInt64 x1) (1 : Int64) (12 : Int64) M).bind fun r_1 =>
  if (b2i r_1) = 0 then
    (f_X7_finds (-1000001 : Int32) M).bind fun r_4 =>
    some (r_4.1, r_4.2)
  else
    ck (vp_in (1 : Int32) 99) <|
    if (M 60 (ix (1 : Int32))) = 0 then
      (f_X7_finds (-1000005 : Int32) M).bind fun r_3 =>
      some (r_3.1, r_3.2)
    else
      f_X7_gossip_l37 FU x1 (0 : Int32) M
noncomputable def f_X7_seed (x1 : Int32) (M : Mem) : Option (Int32 × Mem) :=
  ck (vp_in (2 : Int32) 99) <|
  letv (M 60 (ix (2 : Int32))) fun x2_2 =>
  ck (vp_in (2 : Int32) 99) <|
  letv (up M 60 (ix (2 : Int32)) x1) fun M_4 =>
  some (x2_2, M_4)
noncomputable def f_X7_feed_b41 (k41 : Int32 → Int32 → Mem → Option (Int32 × Mem)) (x1 : Int32) (x3 : Int32) (M : Mem) : Option (Int32 × Mem) :=
  if x3 < 0 then
    some (M 59 13, M)
  else
    ck (vp_in (M 59 13) 120) <|
    letv (up M 65 (ix (M 59 13)) ((x1 >>> (((8 : Int32) * x3) &&& 31)) &&& (255 : Int32))) fun M_6 =>
    letv (up M_6 59 13 ((M_6 59 13) + (1 : Int32))) fun M_7 =>
    k41 x1 (x3 + (-1 : Int32)) M_7
noncomputable def f_X7_feed_l41 : Nat → Int32 → Int32 → Mem → Option (Int32 × Mem) := lp (fun _ _ _ => none) (f_X7_feed_b41)
noncomputable def f_X7_feed (x1 : Int32) (x2 : Int32) (M : Mem) : Option (Int32 × Mem) :=
  (f_X7_in (Int32.toInt64 x2) (1 : Int64) (4 : Int64) M).bind fun r_1 =>
  if (b2i r_1) = 0 then
    (f_X7_finds (-1000001 : Int32) M).bind fun r_4 =>
    some (r_4.1, r_4.2)
  else
    if ((M 59 13) + x2) ≤ (120 : Int32) then
      letv (x2 - (1 : Int32)) fun x3_2 =>
      f_X7_feed_l41 FU x1 x3_2 M
    else
      (f_X7_finds (-1000002 : Int32) M).bind fun r_3 =>
      some (r_3.1, r_3.2)
noncomputable def f_X7_wipe (M : Mem) : Option (Int32 × Mem) :=
  letv (M 59 13) fun x1_1 =>
  letv (up M 59 13 (0 : Int32)) fun M_2 =>
  some (x1_1, M_2)
noncomputable def f_X7_byteAt (x1 : Int32) (M : Mem) : Option (Int32) :=
  if (M 59 13) ≤ x1 then
    some (-1 : Int32)
  else
    ck (vp_in x1 120) <|
    some (M 65 (ix x1))
noncomputable def f_X7_isLetter (x0 : Int32) (M : Mem) : Option (Bool) :=
  (f_X7_in (Int32.toInt64 x0) (97 : Int64) (122 : Int64) M).bind fun r_1 =>
  some r_1
noncomputable def f_X7_isDigit (x0 : Int32) (M : Mem) : Option (Bool) :=
  (f_X7_in (Int32.toInt64 x0) (48 : Int64) (57 : Int64) M).bind fun r_1 =>
  some r_1
noncomputable def f_X7_token_j104 (k86 : Int32 → Int32 → Mem → Option (Mem)) (x1 : Int32) (x2 : Int32) (M : Mem) : Option (Mem) :=
  if x2 = 0 then
    some M
  else
    (f_X7_byteAt (M 59 15) M).bind fun r_13 =>
    (f_X7_isDigit r_13 M).bind fun r_14 =>
    if (b2i r_14) = 0 then
      some M
    else
      letv (up M 59 15 ((M 59 15) + (1 : Int32))) fun M_15 =>
      k86 x1 x2 M_15
noncomputable def f_X7_token_b86 (k86 : Int32 → Int32 → Mem → Option (Mem)) (x1 : Int32) (x2 : Int32) (M : Mem) : Option (Mem) :=
  if x1 = 0 then
    f_X7_token_j104 k86 x1 x2 M
  else
    (f_X7_byteAt (M 59 15) M).bind fun r_10 =>
    (f_X7_isLetter r_10 M).bind fun r_11 =>
    if (b2i r_11) = 0 then
      f_X7_token_j104 k86 x1 x2 M
    else
      letv (up M 59 15 ((M 59 15) + (1 : Int32))) fun M_12 =>
      k86 x1 x2 M_12
noncomputable def f_X7_token_l86 : Nat → Int32 → Int32 → Mem → Option (Mem) := lp (fun _ _ _ => none) (f_X7_token_b86)
noncomputable def f_X7_token_b8 (k8 : Mem → Option (Mem)) (M : Mem) : Option (Mem) :=
  (f_X7_byteAt (M 59 14) M).bind fun r_2 =>
  if r_2 = (32 : Int32) then
    letv (up M 59 14 ((M 59 14) + (1 : Int32))) fun M_9 =>
    k8 M_9
  else
    (f_X7_byteAt (M 59 14) M).bind fun r_3 =>
    (f_X7_isLetter r_3 M).bind fun r_4 =>
    (f_X7_byteAt (M 59 14) M).bind fun r_5 =>
    (f_X7_isDigit r_5 M).bind fun r_6 =>
    if (M 59 13) ≤ (M 59 14) then
      letv (up M 59 15 (M 59 14)) fun M_7 =>
      f_X7_token_l86 FU (b2i r_4) (b2i r_6) M_7
    else
      letv (up M 59 15 ((M 59 14) + (1 : Int32))) fun M_8 =>
      f_X7_token_l86 FU (b2i r_4) (b2i r_6) M_8
noncomputable def f_X7_token_l8 : Nat → Mem → Option (Mem) := lp (fun _ => none) (f_X7_token_b8)
noncomputable def f_X7_token (M : Mem) : Option (Mem) :=
  letv (up M 59 14 (M 59 15)) fun M_1 =>
  f_X7_token_l8 FU M_1
noncomputable def f_X7_needs (x1 : Int32) (M : Mem) : Option (Mem) :=
  if (M 59 17) = 0 then
    if x1 = 0 then
      letv (up M 59 17 (1 : Int32)) fun M_5 =>
      if (M_5 59 17) = 0 then
        (f_X7_token M_5).bind fun r_6 =>
        some r_6
      else
        some M_5
    else
      letv (up M 59 17 (0 : Int32)) fun M_3 =>
      if (M_3 59 17) = 0 then
        (f_X7_token M_3).bind fun r_4 =>
        some r_4
      else
        some M_3
  else
    letv (up M 59 17 (1 : Int32)) fun M_1 =>
    if (M_1 59 17) = 0 then
      (f_X7_token M_1).bind fun r_2 =>
      some r_2
    else
      some M_1
noncomputable def f_X7_word_b7 (k7 : Int64 → Int32 → Mem → Option (Int64)) (y1 : Int64) (x3 : Int32) (M : Mem) : Option (Int64) :=
  if (M 59 15) ≤ x3 then
    if (M 59 17) = 0 then
      (f_X7_byteAt (M 59 14) M).bind fun r_2 =>
      (f_X7_isLetter r_2 M).bind fun r_3 =>
      if (b2i r_3) = 0 then
        some (0 : Int64)
      else
        some y1
    else
      some (0 : Int64)
  else
    if (lg_cmp y1 (36028797018963967 : Int64)) ≤ 0 then
      ck (vp_in x3 120) <|
      letv (((32 : Int64) * y1) + (Int32.toInt64 ((M 65 (ix x3)) - (96 : Int32)))) fun y1_5 =>
      k7 y1_5 (x3 + (1 : Int32)) M
    else
      k7 y1 (x3 + (1 : Int32)) M
noncomputable def f_X7_word_l7 : Nat → Int64 → Int32 → Mem → Option (Int64) := lp (fun _ _ _ => none) (f_X7_word_b7)
noncomputable def f_X7_word (M : Mem) : Option (Int64) :=
  letv (M 59 14) fun x3_1 =>
  f_X7_word_l7 FU (0 : Int64) x3_1 M
noncomputable def f_X7_number_j79 (x1 : Int32) (x2 : Int32) (x3 : Int32) (x4 : Int32) (M : Mem) : Option (Mem) :=
  letv (up M 59 16 x4) fun M_6 =>
  if x3 = 0 then
    (f_X7_needs (0 : Int32) M_6).bind fun r_7 =>
    some r_7
  else
    (f_X7_in (Int32.toInt64 x4) (Int32.toInt64 x1) (Int32.toInt64 x2) M_6).bind fun r_8 =>
    if (b2i r_8) = 0 then
      (f_X7_needs (0 : Int32) M_6).bind fun r_9 =>
      some r_9
    else
      (f_X7_needs (1 : Int32) M_6).bind fun r_10 =>
      some r_10
noncomputable def f_X7_number_b29 (k29 : Int32 → Int32 → Int32 → Int32 → Int32 → Mem → Option (Mem)) (x1 : Int32) (x2 : Int32) (x3 : Int32) (x4 : Int32) (x5 : Int32) (M : Mem) : Option (Mem) :=
  if (M 59 15) ≤ x5 then
    f_X7_number_j79 x1 x2 x3 x4 M
  else
    if x3 = 0 then
      f_X7_number_j79 x1 x2 x3 x4 M
    else
      if x4 ≤ (99999 : Int32) then
        ck (vp_in x5 120) <|
        letv ((((10 : Int32) * x4) + (M 65 (ix x5))) - (48 : Int32)) fun x4_5 =>
        k29 x1 x2 x3 x4_5 (x5 + (1 : Int32)) M
      else
        k29 x1 x2 x3 x4 (x5 + (1 : Int32)) M
noncomputable def f_X7_number_l29 : Nat → Int32 → Int32 → Int32 → Int32 → Int32 → Mem → Option (Mem) := lp (fun _ _ _ _ _ _ => none) (f_X7_number_b29)
noncomputable def f_X7_number (x1 : Int32) (x2 : Int32) (M : Mem) : Option (Mem) :=
  if (M 59 17) = 0 then
    (f_X7_byteAt (M 59 14) M).bind fun r_1 =>
    (f_X7_isDigit r_1 M).bind fun r_2 =>
    letv (M 59 14) fun x5_3 =>
    f_X7_number_l29 FU x1 x2 (b2i r_2) (0 : Int32) x5_3 M
  else
    some M
noncomputable def f_X7_kindHere (M : Mem) : Option (Int32) :=
  (f_X7_word M).bind fun r_1 =>
  if (lg_cmp r_1 (790941874 : Int64)) = 0 then
    some (0 : Int32)
  else
    if (lg_cmp r_1 (638164 : Int64)) = 0 then
      some (1 : Int32)
    else
      if (lg_cmp r_1 (212557 : Int64)) = 0 then
        some (2 : Int32)
      else
        if (lg_cmp r_1 (539828 : Int64)) = 0 then
          some (3 : Int32)
        else
          if (lg_cmp r_1 (3544651 : Int64)) = 0 then
            some (4 : Int32)
          else
            if (lg_cmp r_1 (136230 : Int64)) = 0 then
              some (5 : Int32)
            else
              if (lg_cmp r_1 (21154405 : Int64)) = 0 then
                some (6 : Int32)
              else
                some (-1 : Int32)
noncomputable def f_X7_perhaps (x1 : Int32) (x2 : Int32) (x3 : Int32) (M : Mem) : Option (Int32 × Mem) :=
  if x1 = 0 then
    some (x3, M)
  else
    (f_X7_needs (1 : Int32) M).bind fun r_1 =>
    (f_X7_number (0 : Int32) x2 r_1).bind fun r_2 =>
    some (r_2 59 16, r_2)
noncomputable def f_X7_marks_b13 (k13 : Int32 → Int32 → Mem → Option (Int32 × Mem)) (x2 : Int32) (x3 : Int32) (M : Mem) : Option (Int32 × Mem) :=
  if x3 = 0 then
    some (x2, M)
  else
    if (M 59 17) = 0 then
      (f_X7_number (0 : Int32) (11 : Int32) M).bind fun r_2 =>
      if (r_2 59 17) = 0 then
        letv (x2 ||| ((1 : Int32) <<< ((r_2 59 16) &&& 31))) fun x2_3 =>
        (f_X7_byteAt (r_2 59 14) r_2).bind fun r_4 =>
        (f_X7_isDigit r_4 r_2).bind fun r_5 =>
        k13 x2_3 (b2i r_5) r_2
      else
        letv (x2 ||| (0 : Int32)) fun x2_6 =>
        (f_X7_byteAt (r_2 59 14) r_2).bind fun r_7 =>
        (f_X7_isDigit r_7 r_2).bind fun r_8 =>
        k13 x2_6 (b2i r_8) r_2
    else
      some (x2, M)
noncomputable def f_X7_marks_l13 : Nat → Int32 → Int32 → Mem → Option (Int32 × Mem) := lp (fun _ _ _ => none) (f_X7_marks_b13)
noncomputable def f_X7_marks (x1 : Int32) (M : Mem) : Option (Int32 × Mem) :=
  if x1 = 0 then
    f_X7_marks_l13 FU (0 : Int32) x1 M
  else
    (f_X7_needs (1 : Int32) M).bind fun r_1 =>
    f_X7_marks_l13 FU (0 : Int32) x1 r_1
noncomputable def f_X7_writerItem_j101 (x1 : Int32) (x2 : Int32) (x3 : Int32) (x4 : Int32) (t1 : Int32) (M : Mem) : Option (Mem) :=
  (f_X7_perhaps t1 (99 : Int32) (4 : Int32) M).bind fun r_10 =>
  if (r_10.2 59 17) = 0 then
    (f_X7_newWriter x1 r_10.2).bind fun r_11 =>
    (f_X7_at r_11.1 (1 : Int32) r_11.2).bind fun r_12 =>
    ck (vp_in r_12 99) <|
    letv (up r_11.2 60 (ix r_12) x2) fun M_14 =>
    (f_X7_at r_11.1 (2 : Int32) M_14).bind fun r_15 =>
    ck (vp_in r_15 99) <|
    letv (up M_14 60 (ix r_15) x3) fun M_17 =>
    (f_X7_at r_11.1 (3 : Int32) M_17).bind fun r_18 =>
    ck (vp_in r_18 99) <|
    letv (up M_17 60 (ix r_18) x4) fun M_20 =>
    (f_X7_at r_11.1 (4 : Int32) M_20).bind fun r_21 =>
    ck (vp_in r_21 99) <|
    letv (up M_20 60 (ix r_21) r_10.1) fun M_23 =>
    some M_23
  else
    some r_10.2
noncomputable def f_X7_writerItem_j79 (x1 : Int32) (x2 : Int32) (x3 : Int32) (t1 : Int32) (M : Mem) : Option (Mem) :=
  (f_X7_marks t1 M).bind fun r_8 =>
  (f_X7_word r_8.2).bind fun r_9 =>
  if (lg_cmp r_9 (17376357 : Int64)) = 0 then
    f_X7_writerItem_j101 x1 x2 x3 r_8.1 (1 : Int32) r_8.2
  else
    f_X7_writerItem_j101 x1 x2 x3 r_8.1 (0 : Int32) r_8.2
noncomputable def f_X7_writerItem_j58 (x1 : Int32) (x2 : Int32) (t1 : Int32) (M : Mem) : Option (Mem) :=
  (f_X7_marks t1 M).bind fun r_6 =>
  (f_X7_word r_6.2).bind fun r_7 =>
  if (lg_cmp r_7 (762030 : Int64)) = 0 then
    f_X7_writerItem_j79 x1 x2 r_6.1 (1 : Int32) r_6.2
  else
    f_X7_writerItem_j79 x1 x2 r_6.1 (0 : Int32) r_6.2
noncomputable def f_X7_writerItem_j37 (x1 : Int32) (t1 : Int32) (M : Mem) : Option (Mem) :=
  (f_X7_marks t1 M).bind fun r_4 =>
  (f_X7_word r_4.2).bind fun r_5 =>
  if (lg_cmp r_5 (37011 : Int64)) = 0 then
    f_X7_writerItem_j58 x1 r_4.1 (1 : Int32) r_4.2
  else
    f_X7_writerItem_j58 x1 r_4.1 (0 : Int32) r_4.2
noncomputable def f_X7_writerItem_j17 (x1 : Int32) (t1 : Int32) (M : Mem) : Option (Mem) :=
  (f_X7_needs t1 M).bind fun r_2 =>
  (f_X7_word r_2).bind fun r_3 =>
  if (lg_cmp r_3 (120467 : Int64)) = 0 then
    f_X7_writerItem_j37 x1 (1 : Int32) r_2
  else
    f_X7_writerItem_j37 x1 (0 : Int32) r_2
noncomputable def f_X7_writerItem (x1 : Int32) (M : Mem) : Option (Mem) :=
  ck (vp_in (0 : Int32) 99) <|
  if (6 : Int32) ≤ (M 60 (ix (0 : Int32))) then
    f_X7_writerItem_j17 x1 (0 : Int32) M
  else
    f_X7_writerItem_j17 x1 (1 : Int32) M
noncomputable def f_X7_personItem_j96 (x1 : Int32) (x2 : Int32) (t1 : Int32) (M : Mem) : Option (Mem) :=
  (f_X7_perhaps t1 (99999 : Int32) (100 : Int32) M).bind fun r_11 =>
  if (r_11.2 59 17) = 0 then
    (f_X7_newPerson x1 r_11.2).bind fun r_12 =>
    (f_X7_where r_12.1 (0 : Int32) r_12.2).bind fun r_13 =>
    ck (vp_in r_13 99) <|
    letv (up r_12.2 60 (ix r_13) x2) fun M_15 =>
    (f_X7_where r_12.1 (3 : Int32) M_15).bind fun r_16 =>
    ck (vp_in r_16 99) <|
    letv (up M_15 60 (ix r_16) r_11.1) fun M_18 =>
    some M_18
  else
    some r_11.2
noncomputable def f_X7_personItem_j75 (x1 : Int32) (t1 : Int32) (M : Mem) : Option (Mem) :=
  (f_X7_marks t1 M).bind fun r_9 =>
  (f_X7_word r_9.2).bind fun r_10 =>
  if (lg_cmp r_10 (16955493 : Int64)) = 0 then
    f_X7_personItem_j96 x1 r_9.1 (1 : Int32) r_9.2
  else
    f_X7_personItem_j96 x1 r_9.1 (0 : Int32) r_9.2
noncomputable def f_X7_personItem_j37 (t1 : Int32) (M : Mem) : Option (Mem) :=
  (f_X7_needs t1 M).bind fun r_4 =>
  ck (vp_in (0 : Int32) 99) <|
  (f_X7_number (0 : Int32) ((r_4 60 (ix (0 : Int32))) - (1 : Int32)) r_4).bind fun r_6 =>
  letv (r_6 59 16) fun x1_7 =>
  (f_X7_word r_6).bind fun r_8 =>
  if (lg_cmp r_8 (21583496 : Int64)) = 0 then
    f_X7_personItem_j75 x1_7 (1 : Int32) r_6
  else
    f_X7_personItem_j75 x1_7 (0 : Int32) r_6
noncomputable def f_X7_personItem_j17 (t1 : Int32) (M : Mem) : Option (Mem) :=
  (f_X7_needs t1 M).bind fun r_2 =>
  (f_X7_word r_2).bind fun r_3 =>
  if (lg_cmp r_3 (89 : Int64)) = 0 then
    f_X7_personItem_j37 (1 : Int32) r_2
  else
    f_X7_personItem_j37 (0 : Int32) r_2
noncomputable def f_X7_personItem (M : Mem) : Option (Mem) :=
  ck (vp_in (1 : Int32) 99) <|
  if (8 : Int32) ≤ (M 60 (ix (1 : Int32))) then
    f_X7_personItem_j17 (0 : Int32) M
  else
    f_X7_personItem_j17 (1 : Int32) M
noncomputable def f_X7_isNumber_j61 (x1 : Int32) (x2 : Int32) (M : Mem) : Option (Bool) :=
  (f_X7_byteAt (M 59 14) M).bind fun r_6 =>
  (f_X7_isDigit r_6 M).bind fun r_7 =>
  if (b2i r_7) = 0 then
    some false
  else
    if x2 = x1 then
      some true
    else
      some false
noncomputable def f_X7_isNumber_b7 (k7 : Int32 → Int32 → Int32 → Mem → Option (Bool)) (x1 : Int32) (x2 : Int32) (x3 : Int32) (M : Mem) : Option (Bool) :=
  if (M 59 15) ≤ x3 then
    f_X7_isNumber_j61 x1 x2 M
  else
    (f_X7_byteAt (M 59 14) M).bind fun r_2 =>
    (f_X7_isDigit r_2 M).bind fun r_3 =>
    if (b2i r_3) = 0 then
      f_X7_isNumber_j61 x1 x2 M
    else
      if x2 ≤ (99999 : Int32) then
        ck (vp_in x3 120) <|
        letv ((((10 : Int32) * x2) + (M 65 (ix x3))) - (48 : Int32)) fun x2_5 =>
        k7 x1 x2_5 (x3 + (1 : Int32)) M
      else
        k7 x1 x2 (x3 + (1 : Int32)) M
noncomputable def f_X7_isNumber_l7 : Nat → Int32 → Int32 → Int32 → Mem → Option (Bool) := lp (fun _ _ _ _ => none) (f_X7_isNumber_b7)
noncomputable def f_X7_isNumber (x1 : Int32) (M : Mem) : Option (Bool) :=
  letv (M 59 14) fun x3_1 =>
  f_X7_isNumber_l7 FU x1 (0 : Int32) x3_1 M
noncomputable def f_X7_tieItem_j76 (x1 : Int32) (x2 : Int32) (M : Mem) : Option (Mem) :=
  if (M 59 17) = 0 then
    if x2 = 0 then
      letv (up M 59 17 (0 : Int32)) fun M_11 =>
      if (M_11 59 17) = 0 then
        (f_X7_joins x1 (M_11 59 16) (1 : Int32) M_11).bind fun r_12 =>
        some r_12
      else
        some M_11
    else
      letv (up M 59 17 (1 : Int32)) fun M_13 =>
      if (M_13 59 17) = 0 then
        (f_X7_joins x1 (M_13 59 16) (1 : Int32) M_13).bind fun r_14 =>
        some r_14
      else
        some M_13
  else
    letv (up M 59 17 (1 : Int32)) fun M_9 =>
    if (M_9 59 17) = 0 then
      (f_X7_joins x1 (M_9 59 16) (1 : Int32) M_9).bind fun r_10 =>
      some r_10
    else
      some M_9
noncomputable def f_X7_tieItem_j58 (x1 : Int32) (t0 : Int32) (M : Mem) : Option (Mem) :=
  if t0 = 0 then
    ck (vp_in (1 : Int32) 99) <|
    (f_X7_number (0 : Int32) ((M 60 (ix (1 : Int32))) - (1 : Int32)) M).bind fun r_8 =>
    f_X7_tieItem_j76 x1 t0 r_8
  else
    f_X7_tieItem_j76 x1 t0 M
noncomputable def f_X7_tieItem_j57 (x1 : Int32) (M : Mem) : Option (Mem) :=
  f_X7_tieItem_j58 x1 (0 : Int32) M
noncomputable def f_X7_tieItem_j17 (t1 : Int32) (M : Mem) : Option (Mem) :=
  (f_X7_needs t1 M).bind fun r_2 =>
  ck (vp_in (1 : Int32) 99) <|
  (f_X7_number (0 : Int32) ((r_2 60 (ix (1 : Int32))) - (1 : Int32)) r_2).bind fun r_4 =>
  letv (r_4 59 16) fun x1_5 =>
  if (r_4 59 17) = 0 then
    (f_X7_isNumber x1_5 r_4).bind fun r_6 =>
    if (b2i r_6) = 0 then
      f_X7_tieItem_j57 x1_5 r_4
    else
      f_X7_tieItem_j58 x1_5 (1 : Int32) r_4
  else
    f_X7_tieItem_j57 x1_5 r_4
noncomputable def f_X7_tieItem (M : Mem) : Option (Mem) :=
  (f_X7_word M).bind fun r_1 =>
  if (lg_cmp r_1 (20773 : Int64)) = 0 then
    f_X7_tieItem_j17 (1 : Int32) M
  else
    f_X7_tieItem_j17 (0 : Int32) M
noncomputable def f_X7_item (M : Mem) : Option (Mem) :=
  (f_X7_kindHere M).bind fun r_1 =>
  if r_1 < 0 then
    (f_X7_word M).bind fun r_2 =>
    if (lg_cmp r_2 (542723566 : Int64)) = 0 then
      (f_X7_personItem M).bind fun r_4 =>
      some r_4
    else
      (f_X7_tieItem M).bind fun r_3 =>
      some r_3
  else
    (f_X7_writerItem r_1 M).bind fun r_5 =>
    some r_5
noncomputable def f_X7_text_j74 (x1 : Int32) (M : Mem) : Option (Int32 × Mem) :=
  letv (up M 59 13 (0 : Int32)) fun M_11 =>
  if (M_11 59 17) = 0 then
    some (x1, M_11)
  else
    (f_X7_putsBack M_11).bind fun r_12 =>
    some ((-1 : Int32) - (r_12 59 14), r_12)
noncomputable def f_X7_text_b24 (k24 : Int32 → Mem → Option (Int32 × Mem)) (x1 : Int32) (M : Mem) : Option (Int32 × Mem) :=
  if (M 59 17) = 0 then
    if (M 59 13) ≤ (M 59 14) then
      f_X7_text_j74 x1 M
    else
      (f_X7_byteAt (M 59 14) M).bind fun r_6 =>
      if r_6 = (59 : Int32) then
        (f_X7_needs (1 : Int32) M).bind fun r_9 =>
        (f_X7_item r_9).bind fun r_10 =>
        k24 (x1 + (1 : Int32)) r_10
      else
        (f_X7_needs (0 : Int32) M).bind fun r_7 =>
        (f_X7_item r_7).bind fun r_8 =>
        k24 (x1 + (1 : Int32)) r_8
  else
    f_X7_text_j74 x1 M
noncomputable def f_X7_text_l24 : Nat → Int32 → Mem → Option (Int32 × Mem) := lp (fun _ _ => none) (f_X7_text_b24)
noncomputable def f_X7_text (M : Mem) : Option (Int32 × Mem) :=
  (f_X7_saves M).bind fun r_1 =>
  letv (up r_1 59 15 (0 : Int32)) fun M_2 =>
  letv (up M_2 59 17 (0 : Int32)) fun M_3 =>
  (f_X7_token M_3).bind fun r_4 =>
  (f_X7_item r_4).bind fun r_5 =>
  f_X7_text_l24 FU (1 : Int32) r_5
noncomputable def f_X7_hold (x1 : Int32) (x2 : Int32) (M : Mem) : Option (Int32 × Mem) :=
  (f_X7_in (Int32.toInt64 x1) (0 : Int64) (9 : Int64) M).bind fun r_1 =>
  if (b2i r_1) = 0 then
    (f_X7_finds (-1000001 : Int32) M).bind fun r_2 =>
    some (r_2.1, r_2.2)
  else
    if x2 = (-1 : Int32) then
      ck (vp_in ((89 : Int32) + x1) 99) <|
      letv (up M 60 (ix ((89 : Int32) + x1)) x2) fun M_4 =>
      some ((1 : Int32), M_4)
    else
      (f_X7_isWriter x2 M).bind fun r_5 =>
      if (b2i r_5) = 0 then
        (f_X7_finds (-1000001 : Int32) M).bind fun r_8 =>
        some (r_8.1, r_8.2)
      else
        ck (vp_in ((89 : Int32) + x1) 99) <|
        letv (up M 60 (ix ((89 : Int32) + x1)) x2) fun M_7 =>
        some ((1 : Int32), M_7)
noncomputable def f_X7_as_j82 (x2 : Int32) (x3 : Int32) (x4 : Int32) (M : Mem) : Option (Int32 × Mem) :=
  if x2 = (2 : Int32) then
    if x4 = (4 : Int32) then
      if (1 : Int32) = 0 then
        (f_X7_finds (-1000003 : Int32) M).bind fun r_13 =>
        some (r_13.1, r_13.2)
      else
        some (x3, M)
    else
      if x4 = (6 : Int32) then
        if (1 : Int32) = 0 then
          (f_X7_finds (-1000003 : Int32) M).bind fun r_15 =>
          some (r_15.1, r_15.2)
        else
          some (x3, M)
      else
        if (0 : Int32) = 0 then
          (f_X7_finds (-1000003 : Int32) M).bind fun r_14 =>
          some (r_14.1, r_14.2)
        else
          some (x3, M)
  else
    if (0 : Int32) = 0 then
      (f_X7_finds (-1000003 : Int32) M).bind fun r_12 =>
      some (r_12.1, r_12.2)
    else
      some (x3, M)
noncomputable def f_X7_as (x1 : Int32) (x2 : Int32) (M : Mem) : Option (Int32 × Mem) :=
  (f_X7_in (Int32.toInt64 x1) (0 : Int64) (9 : Int64) M).bind fun r_1 =>
  if (b2i r_1) = 0 then
    (f_X7_finds (-1000001 : Int32) M).bind fun r_2 =>
    some (r_2.1, r_2.2)
  else
    (f_X7_in (Int32.toInt64 x2) (0 : Int64) (6 : Int64) M).bind fun r_3 =>
    if (b2i r_3) = 0 then
      (f_X7_finds (-1000001 : Int32) M).bind fun r_11 =>
      some (r_11.1, r_11.2)
    else
      ck (vp_in ((89 : Int32) + x1) 99) <|
      letv (M 60 (ix ((89 : Int32) + x1))) fun x3_5 =>
      if 0 ≤ x3_5 then
        (f_X7_its x3_5 (0 : Int32) M).bind fun r_6 =>
        if x2 = 0 then
          if (1 : Int32) = 0 then
            (f_X7_finds (-1000003 : Int32) M).bind fun r_7 =>
            some (r_7.1, r_7.2)
          else
            some (x3_5, M)
        else
          if r_6 = x2 then
            if (1 : Int32) = 0 then
              (f_X7_finds (-1000003 : Int32) M).bind fun r_8 =>
              some (r_8.1, r_8.2)
            else
              some (x3_5, M)
          else
            if x2 = (1 : Int32) then
              if r_6 = (3 : Int32) then
                if (1 : Int32) = 0 then
                  (f_X7_finds (-1000003 : Int32) M).bind fun r_9 =>
                  some (r_9.1, r_9.2)
                else
                  some (x3_5, M)
              else
                f_X7_as_j82 x2 x3_5 r_6 M
            else
              f_X7_as_j82 x2 x3_5 r_6 M
      else
        (f_X7_finds (-1000006 : Int32) M).bind fun r_10 =>
        some (r_10.1, r_10.2)
noncomputable def f_X7_isOne (x0 : Int32) (M : Mem) : Option (Bool) :=
  (f_X7_in (Int32.toInt64 x0) (0 : Int64) (3 : Int64) M).bind fun r_1 =>
  some r_1
noncomputable def f_X7_sheet_b86 (k86 : Int32 → Int32 → Mem → Option (Int32 × Mem)) (x1 : Int32) (x4 : Int32) (M : Mem) : Option (Int32 × Mem) :=
  if (40 : Int32) ≤ x4 then
    ck (vp_in x1 4) <|
    some (M 67 (ix x1), M)
  else
    ck (vp_in (((40 : Int32) * x1) + x4) 160) <|
    letv (up M 68 (ix (((40 : Int32) * x1) + x4)) (0 : Int32)) fun M_14 =>
    k86 x1 (x4 + (1 : Int32)) M_14
noncomputable def f_X7_sheet_l86 : Nat → Int32 → Int32 → Mem → Option (Int32 × Mem) := lp (fun _ _ _ => none) (f_X7_sheet_b86)
noncomputable def f_X7_sheet_j36 (x1 : Int32) (x2 : Int32) (x3 : Int32) (M : Mem) : Option (Int32 × Mem) :=
  if 0 ≤ x3 then
    if x3 ≤ (40 : Int32) then
      ck (vp_in x1 4) <|
      letv (up M 66 (ix x1) x2) fun M_5 =>
      if x2 = 0 then
        ck (vp_in x1 4) <|
        letv (up M_5 67 (ix x1) (0 : Int32)) fun M_9 =>
        f_X7_sheet_l86 FU x1 (0 : Int32) M_9
      else
        ck (vp_in x1 4) <|
        letv (up M_5 67 (ix x1) x3) fun M_7 =>
        f_X7_sheet_l86 FU x1 (0 : Int32) M_7
    else
      (f_X7_finds (-1000001 : Int32) M).bind fun r_10 =>
      some (r_10.1, r_10.2)
  else
    (f_X7_finds (-1000007 : Int32) M).bind fun r_11 =>
    some (r_11.1, r_11.2)
noncomputable def f_X7_sheet (x1 : Int32) (x2 : Int32) (x3 : Int32) (M : Mem) : Option (Int32 × Mem) :=
  (f_X7_isOne x1 M).bind fun r_1 =>
  if (b2i r_1) = 0 then
    (f_X7_finds (-1000001 : Int32) M).bind fun r_2 =>
    some (r_2.1, r_2.2)
  else
    if x2 = 0 then
      f_X7_sheet_j36 x1 x2 x3 M
    else
      if x2 = (8 : Int32) then
        f_X7_sheet_j36 x1 x2 x3 M
      else
        if x2 = (16 : Int32) then
          f_X7_sheet_j36 x1 x2 x3 M
        else
          if x2 = (32 : Int32) then
            f_X7_sheet_j36 x1 x2 x3 M
          else
            (f_X7_finds (-1000001 : Int32) M).bind fun r_3 =>
            some (r_3.1, r_3.2)
noncomputable def f_X7_narrowed (x0 : Int32) (x1 : Int32) (M : Mem) : Option (Int32) :=
  if x0 = (8 : Int32) then
    some ((Int32.toInt8 x1).toInt32)
  else
    if x0 = (16 : Int32) then
      some ((Int32.toInt16 x1).toInt32)
    else
      some x1
noncomputable def f_X7_wrong (x1 : Int32) (M : Mem) : Option (Int32) :=
  (f_X7_isOne x1 M).bind fun r_1 =>
  if (b2i r_1) = 0 then
    some (-1000001 : Int32)
  else
    ck (vp_in x1 4) <|
    if (M 66 (ix x1)) = 0 then
      some (-1000006 : Int32)
    else
      some (0 : Int32)
noncomputable def f_X7_write (x1 : Int32) (x2 : Int32) (x3 : Int32) (M : Mem) : Option (Int32 × Mem) :=
  (f_X7_wrong x1 M).bind fun r_1 =>
  if r_1 = 0 then
    ck (vp_in x1 4) <|
    (f_X7_in (Int32.toInt64 x2) (0 : Int64) (Int32.toInt64 ((M 67 (ix x1)) - (1 : Int32))) M).bind fun r_3 =>
    if (b2i r_3) = 0 then
      (f_X7_finds (-1000001 : Int32) M).bind fun r_8 =>
      some (r_8.1, r_8.2)
    else
      ck (vp_in x1 4) <|
      (f_X7_narrowed (M 66 (ix x1)) x3 M).bind fun r_5 =>
      ck (vp_in (((40 : Int32) * x1) + x2) 160) <|
      letv (up M 68 (ix (((40 : Int32) * x1) + x2)) r_5) fun M_7 =>
      some ((1 : Int32), M_7)
  else
    (f_X7_finds r_1 M).bind fun r_9 =>
    some (r_9.1, r_9.2)
noncomputable def f_X7_copy_b158 (k158 : Int32 → Int32 → Int32 → Int32 → Mem → Option (Int32 × Mem)) (x3 : Int32) (x4 : Int32) (x5 : Int32) (x6 : Int32) (M : Mem) : Option (Int32 × Mem) :=
  if x5 ≤ x6 then
    some (x5, M)
  else
    ck (vp_in x6 40) <|
    ck (vp_in ((((40 : Int32) * x3) + x4) + x6) 160) <|
    letv (up M 68 (ix ((((40 : Int32) * x3) + x4) + x6)) (M 69 (ix x6))) fun M_24 =>
    k158 x3 x4 x5 (x6 + (1 : Int32)) M_24
noncomputable def f_X7_copy_l158 : Nat → Int32 → Int32 → Int32 → Int32 → Mem → Option (Int32 × Mem) := lp (fun _ _ _ _ _ => none) (f_X7_copy_b158)
noncomputable def f_X7_copy_b121 (k121 : Int32 → Int32 → Int32 → Int32 → Int32 → Int32 → Mem → Option (Int32 × Mem)) (x1 : Int32) (x2 : Int32) (x3 : Int32) (x4 : Int32) (x5 : Int32) (x6 : Int32) (M : Mem) : Option (Int32 × Mem) :=
  if x5 ≤ x6 then
    f_X7_copy_l158 FU x3 x4 x5 (0 : Int32) M
  else
    ck (vp_in ((((40 : Int32) * x1) + x2) + x6) 160) <|
    ck (vp_in x6 40) <|
    letv (up M 69 (ix x6) (M 68 (ix ((((40 : Int32) * x1) + x2) + x6)))) fun M_21 =>
    k121 x1 x2 x3 x4 x5 (x6 + (1 : Int32)) M_21
noncomputable def f_X7_copy_l121 : Nat → Int32 → Int32 → Int32 → Int32 → Int32 → Int32 → Mem → Option (Int32 × Mem) := lp (fun _ _ _ _ _ _ _ => none) (f_X7_copy_b121)
noncomputable def f_X7_copy (x1 : Int32) (x2 : Int32) (x3 : Int32) (x4 : Int32) (x5 : Int32) (M : Mem) : Option (Int32 × Mem) :=
  (f_X7_isOne x1 M).bind fun r_1 =>
  if (b2i r_1) = 0 then
    (f_X7_finds (-1000001 : Int32) M).bind fun r_2 =>
    some (r_2.1, r_2.2)
  else
    (f_X7_isOne x3 M).bind fun r_3 =>
    if (b2i r_3) = 0 then
      (f_X7_finds (-1000001 : Int32) M).bind fun r_18 =>
      some (r_18.1, r_18.2)
    else
      ck (vp_in x1 4) <|
      if (M 66 (ix x1)) = 0 then
        (f_X7_finds (-1000006 : Int32) M).bind fun r_5 =>
        some (r_5.1, r_5.2)
      else
        ck (vp_in x3 4) <|
        if (M 66 (ix x3)) = 0 then
          (f_X7_finds (-1000006 : Int32) M).bind fun r_17 =>
          some (r_17.1, r_17.2)
        else
          ck (vp_in x1 4) <|
          ck (vp_in x3 4) <|
          if (M 66 (ix x1)) = (M 66 (ix x3)) then
            if x2 < 0 then
              (f_X7_finds (-1000001 : Int32) M).bind fun r_9 =>
              some (r_9.1, r_9.2)
            else
              if x4 < 0 then
                (f_X7_finds (-1000001 : Int32) M).bind fun r_10 =>
                some (r_10.1, r_10.2)
              else
                if x5 < 0 then
                  (f_X7_finds (-1000001 : Int32) M).bind fun r_11 =>
                  some (r_11.1, r_11.2)
                else
                  ck (vp_in x1 4) <|
                  if ((M 67 (ix x1)) - x2) < x5 then
                    (f_X7_finds (-1000001 : Int32) M).bind fun r_13 =>
                    some (r_13.1, r_13.2)
                  else
                    ck (vp_in x3 4) <|
                    if x5 ≤ ((M 67 (ix x3)) - x4) then
                      f_X7_copy_l121 FU x1 x2 x3 x4 x5 (0 : Int32) M
                    else
                      (f_X7_finds (-1000001 : Int32) M).bind fun r_15 =>
                      some (r_15.1, r_15.2)
          else
            (f_X7_finds (-1000003 : Int32) M).bind fun r_16 =>
            some (r_16.1, r_16.2)
noncomputable def f_X7_load_b18 (k18 : Int32 → Int32 → Mem → Option (Int32 × Mem)) (x1 : Int32) (x3 : Int32) (M : Mem) : Option (Int32 × Mem) :=
  ck (vp_in x1 4) <|
  if (M 67 (ix x1)) ≤ x3 then
    some (x3, M)
  else
    ck (vp_in (1 : Int32) 99) <|
    if (M 60 (ix (1 : Int32))) ≤ x3 then
      some (x3, M)
    else
      ck (vp_in (((40 : Int32) * x1) + x3) 160) <|
      (f_X7_isSaying (M 68 (ix (((40 : Int32) * x1) + x3))) M).bind fun r_6 =>
      if (b2i r_6) = 0 then
        some (x3, M)
      else
        (f_X7_where x3 (0 : Int32) M).bind fun r_7 =>
        ck (vp_in (((40 : Int32) * x1) + x3) 160) <|
        ck (vp_in r_7 99) <|
        letv (up M 60 (ix r_7) (M 68 (ix (((40 : Int32) * x1) + x3)))) fun M_10 =>
        k18 x1 (x3 + (1 : Int32)) M_10
noncomputable def f_X7_load_l18 : Nat → Int32 → Int32 → Mem → Option (Int32 × Mem) := lp (fun _ _ _ => none) (f_X7_load_b18)
noncomputable def f_X7_load (x1 : Int32) (M : Mem) : Option (Int32 × Mem) :=
  (f_X7_wrong x1 M).bind fun r_1 =>
  if r_1 = 0 then
    f_X7_load_l18 FU x1 (0 : Int32) M
  else
    (f_X7_finds r_1 M).bind fun r_2 =>
    some (r_2.1, r_2.2)
noncomputable def f_X7_judge_j83 (k37 : Int32 → Int32 → Int32 → Int32 → Mem → Option (Int32 × Mem)) (x1 : Int32) (x2 : Int32) (x4 : Int32) (t0 : Int32) (M : Mem) : Option (Int32 × Mem) :=
  if t0 = 0 then
    letv (x4 + (0 : Int32)) fun x4_8 =>
    k37 x1 x2 x4_8 t0 M
  else
    letv (x4 + (1 : Int32)) fun x4_9 =>
    k37 x1 x2 x4_9 t0 M
noncomputable def f_X7_judge_b37 (k37 : Int32 → Int32 → Int32 → Int32 → Mem → Option (Int32 × Mem)) (x1 : Int32) (x2 : Int32) (x4 : Int32) (x5 : Int32) (M : Mem) : Option (Int32 × Mem) :=
  if x5 = 0 then
    if x5 = 0 then
      some ((1 : Int32) + x4, M)
    else
      some ((0 : Int32), M)
  else
    ck (vp_in x1 4) <|
    if (M 67 (ix x1)) ≤ x4 then
      if x5 = 0 then
        some ((1 : Int32) + x4, M)
      else
        some ((0 : Int32), M)
    else
      ck (vp_in (((40 : Int32) * x1) + x4) 160) <|
      (f_X7_findSaid x2 (M 68 (ix (((40 : Int32) * x1) + x4))) (0 : Int32) M).bind fun r_7 =>
      if (r_7 59 6) ≤ 0 then
        f_X7_judge_j83 k37 x1 x2 x4 (0 : Int32) r_7
      else
        f_X7_judge_j83 k37 x1 x2 x4 (1 : Int32) r_7
noncomputable def f_X7_judge_l37 : Nat → Int32 → Int32 → Int32 → Int32 → Mem → Option (Int32 × Mem) := lp (fun _ _ _ _ _ => none) (f_X7_judge_b37)
noncomputable def f_X7_judge (x1 : Int32) (x2 : Int32) (M : Mem) : Option (Int32 × Mem) :=
  (f_X7_wrong x1 M).bind fun r_1 =>
  if r_1 = 0 then
    (f_X7_isWriter x2 M).bind fun r_2 =>
    if (b2i r_2) = 0 then
      (f_X7_finds (-1000001 : Int32) M).bind fun r_3 =>
      some (r_3.1, r_3.2)
    else
      f_X7_judge_l37 FU x1 x2 (0 : Int32) (1 : Int32) M
  else
    (f_X7_finds r_1 M).bind fun r_4 =>
    some (r_4.1, r_4.2)
noncomputable def f_X7_image_b2 (k2 : Int32 → Mem → Option (Int32 × Mem)) (x1 : Int32) (M : Mem) : Option (Int32 × Mem) :=
  if (99 : Int32) ≤ x1 then
    letv (up M 59 4 (1 : Int32)) fun M_1 =>
    some ((1 : Int32), M_1)
  else
    ck (vp_in x1 99) <|
    ck (vp_in x1 99) <|
    letv (up M 61 (ix x1) (M 60 (ix x1))) fun M_4 =>
    k2 (x1 + (1 : Int32)) M_4
noncomputable def f_X7_image_l2 : Nat → Int32 → Mem → Option (Int32 × Mem) := lp (fun _ _ => none) (f_X7_image_b2)
noncomputable def f_X7_image (M : Mem) : Option (Int32 × Mem) :=
  f_X7_image_l2 FU (0 : Int32) M
noncomputable def f_X7_undo_b16 (k16 : Int32 → Mem → Option (Int32 × Mem)) (x1 : Int32) (M : Mem) : Option (Int32 × Mem) :=
  if (99 : Int32) ≤ x1 then
    ck (vp_in (3 : Int32) 99) <|
    some (M 60 (ix (3 : Int32)), M)
  else
    ck (vp_in x1 99) <|
    ck (vp_in x1 99) <|
    letv (up M 60 (ix x1) (M 61 (ix x1))) fun M_5 =>
    k16 (x1 + (1 : Int32)) M_5
noncomputable def f_X7_undo_l16 : Nat → Int32 → Mem → Option (Int32 × Mem) := lp (fun _ _ => none) (f_X7_undo_b16)
noncomputable def f_X7_undo (M : Mem) : Option (Int32 × Mem) :=
  if (M 59 4) = 0 then
    (f_X7_finds (-1000004 : Int32) M).bind fun r_1 =>
    some (r_1.1, r_1.2)
  else
    f_X7_undo_l16 FU (0 : Int32) M
noncomputable def f_X7_tear (M : Mem) : Option (Int32 × Mem) :=
  if (M 59 4) = 0 then
    letv (up M 59 4 (0 : Int32)) fun M_1 =>
    some ((0 : Int32), M_1)
  else
    letv (up M 59 4 (0 : Int32)) fun M_2 =>
    some ((1 : Int32), M_2)
noncomputable def f_X7_held_b4 (k4 : Int32 → Int32 → Mem → Option (Int32)) (x1 : Int32) (x2 : Int32) (M : Mem) : Option (Int32) :=
  if (10 : Int32) ≤ x2 then
    some x1
  else
    ck (vp_in ((89 : Int32) + x2) 99) <|
    if 0 ≤ (M 60 (ix ((89 : Int32) + x2))) then
      letv (x1 + (1 : Int32)) fun x1_2 =>
      k4 x1_2 (x2 + (1 : Int32)) M
    else
      letv (x1 + (0 : Int32)) fun x1_3 =>
      k4 x1_3 (x2 + (1 : Int32)) M
noncomputable def f_X7_held_l4 : Nat → Int32 → Int32 → Mem → Option (Int32) := lp (fun _ _ _ => none) (f_X7_held_b4)
noncomputable def f_X7_held (M : Mem) : Option (Int32) :=
  f_X7_held_l4 FU (0 : Int32) (0 : Int32) M
noncomputable def f_X7_counted_b4 (k4 : Int32 → Int32 → Int32 → Mem → Option (Int32)) (x1 : Int32) (x2 : Int32) (x3 : Int32) (M : Mem) : Option (Int32) :=
  ck (vp_in (1 : Int32) 99) <|
  if (M 60 (ix (1 : Int32))) ≤ x3 then
    some x2
  else
    if x1 = 0 then
      (f_X7_lies x3 M).bind fun r_2 =>
      (f_X7_ones r_2 M).bind fun r_3 =>
      letv (x2 + r_3) fun x2_4 =>
      k4 x1 x2_4 (x3 + (1 : Int32)) M
    else
      (f_X7_told x3 (4 : Int32) M).bind fun r_5 =>
      letv (x2 + r_5) fun x2_6 =>
      k4 x1 x2_6 (x3 + (1 : Int32)) M
noncomputable def f_X7_counted_l4 : Nat → Int32 → Int32 → Int32 → Mem → Option (Int32) := lp (fun _ _ _ _ => none) (f_X7_counted_b4)
noncomputable def f_X7_counted (x1 : Int32) (M : Mem) : Option (Int32) :=
  f_X7_counted_l4 FU x1 (0 : Int32) (0 : Int32) M
noncomputable def f_X7_purses_b4 (k4 : Int32 → Int32 → Mem → Option (Int32)) (x1 : Int32) (x2 : Int32) (M : Mem) : Option (Int32) :=
  ck (vp_in (0 : Int32) 99) <|
  if (M 60 (ix (0 : Int32))) ≤ x2 then
    some x1
  else
    (f_X7_its x2 (5 : Int32) M).bind fun r_2 =>
    letv (x1 + r_2) fun x1_3 =>
    k4 x1_3 (x2 + (1 : Int32)) M
noncomputable def f_X7_purses_l4 : Nat → Int32 → Int32 → Mem → Option (Int32) := lp (fun _ _ _ => none) (f_X7_purses_b4)
noncomputable def f_X7_purses (M : Mem) : Option (Int32) :=
  f_X7_purses_l4 FU (0 : Int32) (0 : Int32) M
noncomputable def f_X7_count (x1 : Int32) (M : Mem) : Option (Int32 × Mem) :=
  if x1 = (0 : Int32) then
    ck (vp_in (0 : Int32) 99) <|
    some (M 60 (ix (0 : Int32)), M)
  else
    if x1 = (1 : Int32) then
      ck (vp_in (1 : Int32) 99) <|
      some (M 60 (ix (1 : Int32)), M)
    else
      if x1 = (2 : Int32) then
        (f_X7_counted (1 : Int32) M).bind fun r_3 =>
        some (r_3, M)
      else
        if x1 = (3 : Int32) then
          (f_X7_purses M).bind fun r_4 =>
          some (r_4, M)
        else
          if x1 = (4 : Int32) then
            (f_X7_counted (0 : Int32) M).bind fun r_5 =>
            some (r_5, M)
          else
            if x1 = (5 : Int32) then
              some (M 59 13, M)
            else
              if x1 = (6 : Int32) then
                ck (vp_in (2 : Int32) 99) <|
                some (M 60 (ix (2 : Int32)), M)
              else
                if x1 = (7 : Int32) then
                  (f_X7_held M).bind fun r_7 =>
                  some (r_7, M)
                else
                  (f_X7_finds (-1000001 : Int32) M).bind fun r_8 =>
                  some (r_8.1, r_8.2)
noncomputable def f_X7_status_b25 (k25 : Int32 → Int32 → Int32 → Mem → Option (Int32 × Mem)) (x1 : Int32) (x2 : Int32) (x3 : Int32) (M : Mem) : Option (Int32 × Mem) :=
  if (7 : Int32) ≤ x3 then
    some (x2, M)
  else
    if x1 < 0 then
      ck (vp_in x3 7) <|
      letv (x2 + (M 63 (ix x3))) fun x2_4 =>
      k25 x1 x2_4 (x3 + (1 : Int32)) M
    else
      if x3 = x1 then
        ck (vp_in x3 7) <|
        letv (x2 + (M 63 (ix x3))) fun x2_7 =>
        k25 x1 x2_7 (x3 + (1 : Int32)) M
      else
        letv (x2 + (0 : Int32)) fun x2_5 =>
        k25 x1 x2_5 (x3 + (1 : Int32)) M
noncomputable def f_X7_status_l25 : Nat → Int32 → Int32 → Int32 → Mem → Option (Int32 × Mem) := lp (fun _ _ _ _ => none) (f_X7_status_b25)
noncomputable def f_X7_status (x1 : Int32) (M : Mem) : Option (Int32 × Mem) :=
  (f_X7_in (Int32.toInt64 x1) (-1 : Int64) (6 : Int64) M).bind fun r_1 =>
  if (b2i r_1) = 0 then
    (f_X7_finds (-1000001 : Int32) M).bind fun r_2 =>
    some (r_2.1, r_2.2)
  else
    f_X7_status_l25 FU x1 (0 : Int32) (0 : Int32) M
