def fMd_in (j0 : Int64) (j2 : Int64) (j4 : Int64) (M : zM) : Option (Int32 × zM) :=
  if (lg_cmp j0 j2) < 0 then
    (zbl 0 (some (0, M)))
  else
    (if (0 : Int32) < (lg_cmp j0 j4) then
      (zbl 0 (some (0, M)))
    else
      (zbl 1 (some (1, M))))
def fMd_bit (v0 : Int32) (M : zM) : Option (Int32 × zM) :=
  if v0 = 0 then
    (some (0, M))
  else
    (some (1, M))
def fMd_ones_4 : Nat → Int32 → Int32 → Int32 → zM → Option (Int32 × zM)
  | 0, _, _, _, _ => none
  | fuel + 1, v0, v1, v2, M =>
  if (31 : Int32) ≤ v2 then
    (some (v1, M))
  else
    (lt (v1 + ((zshr v0 v2) &&& 1)) fun u1_17 =>
    fMd_ones_4 fuel v0 u1_17 (v2 + 1) M)
def fMd_ones (v0 : Int32) (M : zM) : Option (Int32 × zM) :=
  fMd_ones_4 FU v0 0 0 M
def fMd_noPost (v1 : Int32) (M : zM) : Option (Int32 × zM) :=
  cl (fMd_in v1.toInt64 0 (((M 0 0) - 1).toInt64) M) fun r2 M1 =>
  if ¬ r2 = 0 then
    (zbl 0 (some (0, M1)))
  else
    (zbl 1 (some (1, M1)))
def fMd_noLine (v1 : Int32) (M : zM) : Option (Int32 × zM) :=
  cl (fMd_in v1.toInt64 0 (((M 0 1) - 1).toInt64) M) fun r2 M1 =>
  if ¬ r2 = 0 then
    (zbl 0 (some (0, M1)))
  else
    (zbl 1 (some (1, M1)))
def fMd_lineOf_30 (k2 : Int32 → Int32 → Int32 → zM → Option (Int32 × zM)) (v1 : Int32) (v2 : Int32) (v3 : Int32) (M : zM) : Option (Int32 × zM) :=
  rd M 1 30 v3 fun x1 =>
  if ¬ x1 = v2 then
    (k2 v1 v2 (v3 + 1) M)
  else
    (rd M 2 30 v3 fun x2 =>
    if ¬ x2 = v1 then
      (k2 v1 v2 (v3 + 1) M)
    else
      (some (v3, M)))
def fMd_lineOf_2 : Nat → Int32 → Int32 → Int32 → zM → Option (Int32 × zM)
  | 0, _, _, _, _ => none
  | fuel + 1, v1, v2, v3, M =>
  if (M 0 1) ≤ v3 then
    (some ((-1), M))
  else
    (rd M 1 30 v3 fun x1 =>
    if ¬ x1 = v1 then
      (fMd_lineOf_30 (fMd_lineOf_2 fuel) v1 v2 v3 M)
    else
      (rd M 2 30 v3 fun x2 =>
      if x2 = v2 then
        (some (v3, M))
      else
        (fMd_lineOf_30 (fMd_lineOf_2 fuel) v1 v2 v3 M)))
def fMd_lineOf (v1 : Int32) (v2 : Int32) (M : zM) : Option (Int32 × zM) :=
  fMd_lineOf_2 FU v1 v2 0 M
def fMd_degree_38 (k4 : Int32 → Int32 → Int32 → zM → Option (Int32 × zM)) (v1 : Int32) (v3 : Int32) (vs0 : Int32) (vs1 : Int32) (M : zM) : Option (Int32 × zM) :=
  cl (fMd_bit vs0 M) fun r2 M1 =>
  lt (vs1 + r2) fun u2_42 =>
  k4 v1 u2_42 (v3 + 1) M1
def fMd_degree_4 : Nat → Int32 → Int32 → Int32 → zM → Option (Int32 × zM)
  | 0, _, _, _, _ => none
  | fuel + 1, v1, v2, v3, M =>
  if (M 0 1) ≤ v3 then
    (some (v2, M))
  else
    (rd M 1 30 v3 fun x1 =>
    if x1 = v1 then
      (fMd_degree_38 (fMd_degree_4 fuel) v1 v3 1 v2 M)
    else
      (rd M 2 30 v3 fun x2 =>
      if ¬ x2 = v1 then
        (fMd_degree_38 (fMd_degree_4 fuel) v1 v3 0 v2 M)
      else
        (fMd_degree_38 (fMd_degree_4 fuel) v1 v3 1 v2 M)))
def fMd_degree (v1 : Int32) (M : zM) : Option (Int32 × zM) :=
  fMd_degree_4 FU v1 0 0 M
def fMd_net (v1 : Int32) (M : zM) : Option (Int32 × zM) :=
  cl (fMd_in v1.toInt64 1 12 M) fun r2 M1 =>
  if ¬ r2 = 0 then
    (wf M1 0 0 v1 fun M3 =>
    wf M3 0 1 0 fun M4 =>
    some (1, M4))
  else
    (some ((-1002), M1))
def fMd_post  (M : zM) : Option (Int32 × zM) :=
  if ¬ (M 0 0) = 12 then
    (wf M 0 0 ((M 0 0) + 1) fun M1 =>
    some (((M1 0 0) - 1), M1))
  else
    (some ((-1004), M))
def fMd_line (v1 : Int32) (v2 : Int32) (M : zM) : Option (Int32 × zM) :=
  cl (fMd_noPost v1 M) fun r2 M1 =>
  if ¬ r2 = 0 then
    (some ((-1001), M1))
  else
    (cl (fMd_noPost v2 M1) fun r4 M3 =>
    if r4 = 0 then
      (if ¬ v1 = v2 then
        (cl (fMd_lineOf v1 v2 M3) fun r6 M5 =>
        if r6 < 0 then
          (if ¬ (M5 0 1) = 30 then
            (wr M5 1 30 (M5 0 1) v1 fun M7 =>
            wr M7 2 30 (M7 0 1) v2 fun M8 =>
            wf M8 0 1 ((M8 0 1) + 1) fun M9 =>
            some (((M9 0 1) - 1), M9))
          else
            (some ((-1004), M5)))
        else
          (some ((-1003), M5)))
      else
        (some ((-1002), M3)))
    else
      (some ((-1001), M3)))
def fMd_strike_24 : Nat → Int32 → zM → Option (Int32 × zM)
  | 0, _, _ => none
  | fuel + 1, v2, M =>
  if (M 0 1) ≤ v2 then
    (some ((M 0 1), M))
  else
    (rd M 1 30 (v2 + 1) fun x1 =>
    wr M 1 30 v2 x1 fun M2 =>
    rd M2 2 30 (v2 + 1) fun x3 =>
    wr M2 2 30 v2 x3 fun M4 =>
    fMd_strike_24 fuel (v2 + 1) M4)
def fMd_strike (v1 : Int32) (M : zM) : Option (Int32 × zM) :=
  cl (fMd_noLine v1 M) fun r2 M1 =>
  if r2 = 0 then
    (wf M1 0 1 ((M1 0 1) - 1) fun M3 =>
    fMd_strike_24 FU v1 M3)
  else
    (some ((-1001), M1))
def fMd_grow_99 (k68 : Int32 → Int32 → Int32 → Int32 → Int32 → zM → Option (Unit × zM)) (v1 : Int32) (v2 : Int32) (v3 : Int32) (v4 : Int32) (v5 : Int32) (vs0 : Int32) (M : zM) : Option (Unit × zM) :=
  if vs0 < 0 then
    (k68 v1 v2 v3 v4 (v5 + 1) M)
  else
    (wr M 4 12 v5 v1 fun M1 =>
    wr M1 3 12 v5 v4 fun M2 =>
    rd M2 5 12 v4 fun x3 =>
    wr M2 5 12 v5 (x3 + 1) fun M4 =>
    wr M4 6 12 v5 vs0 fun M5 =>
    wf M5 0 10 ((M5 0 10) + 1) fun M6 =>
    wr M6 7 12 v3 v5 fun M7 =>
    k68 v1 v2 (v3 + 1) v4 (v5 + 1) M7)
def fMd_grow_68 (k49 : Int32 → Int32 → Int32 → zM → Option (Unit × zM)) : Nat → Int32 → Int32 → Int32 → Int32 → Int32 → zM → Option (Unit × zM)
  | 0, _, _, _, _, _, _ => none
  | fuel + 1, v1, v2, v3, v4, v5, M =>
  if (M 0 0) ≤ v5 then
    (k49 v1 v2 v3 M)
  else
    (rd M 4 12 v5 fun x1 =>
    if (0 : Int32) ≤ x1 then
      (fMd_grow_99 (fMd_grow_68 k49 fuel) v1 v2 v3 v4 v5 (-1) M)
    else
      (cl (fMd_lineOf v4 v5 M) fun r3 M2 =>
      fMd_grow_99 (fMd_grow_68 k49 fuel) v1 v2 v3 v4 v5 r3 M2))
def fMd_grow_49 : Nat → Int32 → Int32 → Int32 → zM → Option (Unit × zM)
  | 0, _, _, _, _ => none
  | fuel + 1, v1, v2, v3, M =>
  if v3 ≤ v2 then
    (some ((), M))
  else
    (rd M 7 12 v2 fun x1 =>
    fMd_grow_68 (fMd_grow_49 fuel) FU v1 (v2 + 1) v3 x1 0 M)
def fMd_grow (v1 : Int32) (M : zM) : Option (Unit × zM) :=
  wf M 0 9 ((M 0 9) + 1) fun M1 =>
  wr M1 4 12 v1 v1 fun M2 =>
  wr M2 3 12 v1 (-1) fun M3 =>
  wr M3 5 12 v1 0 fun M4 =>
  wr M4 6 12 v1 (-1) fun M5 =>
  wr M5 7 12 0 v1 fun M6 =>
  fMd_grow_49 FU v1 0 1 M6
def fMd_findTree_35 : Nat → Int32 → zM → Option (Unit × zM)
  | 0, _, _ => none
  | fuel + 1, v1, M =>
  if (M 0 0) ≤ v1 then
    (some ((), M))
  else
    (rd M 4 12 v1 fun x1 =>
    if (0 : Int32) ≤ x1 then
      (fMd_findTree_35 fuel (v1 + 1) M)
    else
      (cl (fMd_grow v1 M) fun _ M2 =>
      fMd_findTree_35 fuel (v1 + 1) M2))
def fMd_findTree_2 : Nat → Int32 → zM → Option (Unit × zM)
  | 0, _, _ => none
  | fuel + 1, v1, M =>
  if (M 0 0) ≤ v1 then
    (wf M 0 9 0 fun M1 =>
    wf M1 0 10 0 fun M2 =>
    fMd_findTree_35 FU 0 M2)
  else
    (wr M 4 12 v1 (-1) fun M3 =>
    fMd_findTree_2 fuel (v1 + 1) M3)
def fMd_findTree  (M : zM) : Option (Unit × zM) :=
  fMd_findTree_2 FU 0 M
def fMd_isTreeLine_4 : Nat → Int32 → Int32 → Int32 → zM → Option (Int32 × zM)
  | 0, _, _, _, _ => none
  | fuel + 1, v1, v2, v3, M =>
  if (M 0 0) ≤ v3 then
    (zbl v2 (some (v2, M)))
  else
    (if ¬ v2 = 0 then
      (fMd_isTreeLine_4 fuel v1 1 (v3 + 1) M)
    else
      (rd M 6 12 v3 fun x1 =>
      if ¬ x1 = v1 then
        (fMd_isTreeLine_4 fuel v1 0 (v3 + 1) M)
      else
        (fMd_isTreeLine_4 fuel v1 1 (v3 + 1) M)))
def fMd_isTreeLine (v1 : Int32) (M : zM) : Option (Int32 × zM) :=
  fMd_isTreeLine_4 FU v1 0 0 M
def fMd_wayUp_4 : Nat → Int32 → Int32 → zM → Option (Int32 × zM)
  | 0, _, _, _ => none
  | fuel + 1, v2, v3, M =>
  rd M 3 12 v3 fun x1 =>
  if x1 < 0 then
    (some (v2, M))
  else
    (rd M 6 12 v3 fun x2 =>
    lt (v2 ||| (zshl 1 x2)) fun u2_23 =>
    rd M 3 12 v3 fun x3 =>
    fMd_wayUp_4 fuel u2_23 x3 M)
def fMd_wayUp (v1 : Int32) (M : zM) : Option (Int32 × zM) :=
  fMd_wayUp_4 FU 0 v1 M
def fMd_goDown_81 (k27 : Int32 → Int32 → Int32 → Int32 → zM → Option (Int32 × zM)) (v1 : Int32) (v3 : Int32) (v4 : Int32) (v6 : Int32) (M : zM) : Option (Int32 × zM) :=
  if v6 < 0 then
    (wr M 9 12 v4 (v3 - 1) fun M1 =>
    if ¬ v4 = v1 then
      (rd M1 3 12 v4 fun x2 =>
      k27 v1 v3 x2 v4 M1)
    else
      (k27 v1 v3 (-1) v4 M1))
  else
    (wr M 8 12 v6 v3 fun M3 =>
    wr M3 9 12 v6 v3 fun M4 =>
    k27 v1 (v3 + 1) v6 (-1) M4)
def fMd_goDown_41 (k27 : Int32 → Int32 → Int32 → Int32 → zM → Option (Int32 × zM)) : Nat → Int32 → Int32 → Int32 → Int32 → Int32 → zM → Option (Int32 × zM)
  | 0, _, _, _, _, _, _ => none
  | fuel + 1, v1, v3, v4, v6, v7, M =>
  if (M 0 0) ≤ v7 then
    (fMd_goDown_81 k27 v1 v3 v4 v6 M)
  else
    (if (0 : Int32) ≤ v6 then
      (fMd_goDown_81 k27 v1 v3 v4 v6 M)
    else
      (rd M 3 12 v7 fun x1 =>
      if ¬ x1 = v4 then
        (fMd_goDown_41 k27 fuel v1 v3 v4 (-1) (v7 + 1) M)
      else
        (fMd_goDown_41 k27 fuel v1 v3 v4 v7 (v7 + 1) M)))
def fMd_goDown_27 : Nat → Int32 → Int32 → Int32 → Int32 → zM → Option (Int32 × zM)
  | 0, _, _, _, _, _ => none
  | fuel + 1, v1, v3, v4, v5, M =>
  if v4 < 0 then
    (some (v3, M))
  else
    (lt (v5 + 1) fun u7_39 =>
    fMd_goDown_41 (fMd_goDown_27 fuel) FU v1 v3 v4 (-1) u7_39 M)
def fMd_goDown (v1 : Int32) (v2 : Int32) (M : zM) : Option (Int32 × zM) :=
  wr M 8 12 v1 v2 fun M1 =>
  wr M1 9 12 v1 v2 fun M2 =>
  fMd_goDown_27 FU v1 (v2 + 1) v1 (-1) M2
def fMd_findSpans_4 : Nat → Int32 → Int32 → zM → Option (Unit × zM)
  | 0, _, _, _ => none
  | fuel + 1, v1, v2, M =>
  if (M 0 0) ≤ v2 then
    (some ((), M))
  else
    (rd M 3 12 v2 fun x1 =>
    if (0 : Int32) ≤ x1 then
      (fMd_findSpans_4 fuel v1 (v2 + 1) M)
    else
      (cl (fMd_goDown v2 v1 M) fun r3 M2 =>
      fMd_findSpans_4 fuel r3 (v2 + 1) M2))
def fMd_findSpans  (M : zM) : Option (Unit × zM) :=
  fMd_findSpans_4 FU 0 0 M
def fMd_findTurns_92 (k55 : Int32 → Int32 → Int32 → Int32 → Int32 → Int32 → zM → Option (Unit × zM)) (v1 : Int32) (v2 : Int32) (v3 : Int32) (v4 : Int32) (v6 : Int32) (vs0 : Int32) (vs1 : Int32) (M : zM) : Option (Unit × zM) :=
  cl (fMd_bit vs0 M) fun r2 M1 =>
  lt (vs1 + r2) fun u5_96 =>
  k55 v1 v2 v3 v4 u5_96 (v6 + 1) M1
def fMd_findTurns_91 (k55 : Int32 → Int32 → Int32 → Int32 → Int32 → Int32 → zM → Option (Unit × zM)) (v1 : Int32) (v2 : Int32) (v3 : Int32) (v4 : Int32) (v6 : Int32) (vs0 : Int32) (M : zM) : Option (Unit × zM) :=
  fMd_findTurns_92 k55 v1 v2 v3 v4 v6 0 vs0 M
def fMd_findTurns_55 (k40 : Int32 → Int32 → Int32 → Int32 → zM → Option (Unit × zM)) : Nat → Int32 → Int32 → Int32 → Int32 → Int32 → Int32 → zM → Option (Unit × zM)
  | 0, _, _, _, _, _, _, _ => none
  | fuel + 1, v1, v2, v3, v4, v5, v6, M =>
  if (M 0 0) ≤ v6 then
    (rd M 10 12 v4 fun x1 =>
    if (0 : Int32) ≤ x1 then
      (k40 v1 v2 v3 (v4 + 1) M)
    else
      (if v2 < 0 then
        (k40 v1 v4 v5 (v4 + 1) M)
      else
        (if v3 ≤ v5 then
          (k40 v1 v2 v3 (v4 + 1) M)
        else
          (k40 v1 v4 v5 (v4 + 1) M))))
  else
    (rd M 10 12 v6 fun x2 =>
    if (0 : Int32) ≤ x2 then
      (fMd_findTurns_91 (fMd_findTurns_55 k40 fuel) v1 v2 v3 v4 v6 v5 M)
    else
      (cl (fMd_lineOf v4 v6 M) fun r4 M3 =>
      if r4 < 0 then
        (fMd_findTurns_91 (fMd_findTurns_55 k40 fuel) v1 v2 v3 v4 v6 v5 M3)
      else
        (fMd_findTurns_92 (fMd_findTurns_55 k40 fuel) v1 v2 v3 v4 v6 1 v5 M3)))
def fMd_findTurns_40 (k25 : Int32 → zM → Option (Unit × zM)) : Nat → Int32 → Int32 → Int32 → Int32 → zM → Option (Unit × zM)
  | 0, _, _, _, _, _ => none
  | fuel + 1, v1, v2, v3, v4, M =>
  if (M 0 0) ≤ v4 then
    (wr M 10 12 v2 v1 fun M1 =>
    k25 (v1 + 1) M1)
  else
    (fMd_findTurns_55 (fMd_findTurns_40 k25 fuel) FU v1 v2 v3 v4 0 0 M)
def fMd_findTurns_25 : Nat → Int32 → zM → Option (Unit × zM)
  | 0, _, _ => none
  | fuel + 1, v1, M =>
  if (M 0 0) ≤ v1 then
    (some ((), M))
  else
    (fMd_findTurns_40 (fMd_findTurns_25 fuel) FU v1 (-1) 0 0 M)
def fMd_findTurns_2 : Nat → Int32 → zM → Option (Unit × zM)
  | 0, _, _ => none
  | fuel + 1, v1, M =>
  if (M 0 0) ≤ v1 then
    (fMd_findTurns_25 FU 0 M)
  else
    (wr M 10 12 v1 (-1) fun M1 =>
    fMd_findTurns_2 fuel (v1 + 1) M1)
def fMd_findTurns  (M : zM) : Option (Unit × zM) :=
  fMd_findTurns_2 FU 0 M
def fMd_findRanks_59 (k14 : Int32 → Int32 → Int32 → zM → Option (Unit × zM)) (v1 : Int32) (v3 : Int32) (vs0 : Int32) (vs1 : Int32) (M : zM) : Option (Unit × zM) :=
  cl (fMd_bit vs0 M) fun r2 M1 =>
  lt (vs1 + r2) fun u2_63 =>
  k14 v1 u2_63 (v3 + 1) M1
def fMd_findRanks_58 (k14 : Int32 → Int32 → Int32 → zM → Option (Unit × zM)) (v1 : Int32) (v3 : Int32) (vs0 : Int32) (M : zM) : Option (Unit × zM) :=
  fMd_findRanks_59 k14 v1 v3 0 vs0 M
def fMd_findRanks_14 (k2 : Int32 → zM → Option (Unit × zM)) : Nat → Int32 → Int32 → Int32 → zM → Option (Unit × zM)
  | 0, _, _, _, _ => none
  | fuel + 1, v1, v2, v3, M =>
  if (M 0 0) ≤ v3 then
    (wr M 11 12 v1 v2 fun M1 =>
    k2 (v1 + 1) M1)
  else
    (cl (fMd_degree v3 M) fun r3 M2 =>
    cl (fMd_degree v1 M2) fun r5 M4 =>
    if r5 < r3 then
      (fMd_findRanks_59 (fMd_findRanks_14 k2 fuel) v1 v3 1 v2 M4)
    else
      (cl (fMd_degree v3 M4) fun r7 M6 =>
      cl (fMd_degree v1 M6) fun r9 M8 =>
      if ¬ r7 = r9 then
        (fMd_findRanks_58 (fMd_findRanks_14 k2 fuel) v1 v3 v2 M8)
      else
        (if v1 ≤ v3 then
          (fMd_findRanks_58 (fMd_findRanks_14 k2 fuel) v1 v3 v2 M8)
        else
          (fMd_findRanks_59 (fMd_findRanks_14 k2 fuel) v1 v3 1 v2 M8))))
def fMd_findRanks_2 : Nat → Int32 → zM → Option (Unit × zM)
  | 0, _, _ => none
  | fuel + 1, v1, M =>
  if (M 0 0) ≤ v1 then
    (some ((), M))
  else
    (fMd_findRanks_14 (fMd_findRanks_2 fuel) FU v1 0 0 M)
def fMd_findRanks  (M : zM) : Option (Unit × zM) :=
  fMd_findRanks_2 FU 0 M
def fMd_put (v1 : Int32) (v2 : Int32) (M : zM) : Option (Unit × zM) :=
  rd M 12 12 v1 fun x1 =>
  wr M 13 312 ((26 * v1) + x1) v2 fun M2 =>
  rd M2 12 12 v1 fun x3 =>
  wr M2 12 12 v1 (x3 + 1) fun M4 =>
  some ((), M4)
def fMd_farOf_21 (k5 : Int32 → Int32 → Int32 → Int32 → zM → Option (Int32 × zM)) : Nat → Int32 → Int32 → Int32 → Int32 → Int32 → zM → Option (Int32 × zM)
  | 0, _, _, _, _, _, _ => none
  | fuel + 1, v1, v2, v3, v4, v5, M =>
  rd M 12 12 v2 fun x1 =>
  if x1 ≤ (v5 + 1) then
    (k5 v1 v2 v3 (v4 + 2) M)
  else
    (rd M 13 312 (((26 * v1) + v4) + 1) fun x2 =>
    rd M 13 312 (((26 * v2) + v5) + 1) fun x3 =>
    lt (x2 + x3) fun u6_63 =>
    rd M 13 312 ((26 * v1) + v4) fun x4 =>
    rd M 13 312 ((26 * v2) + v5) fun x5 =>
    if ¬ x4 = x5 then
      (fMd_farOf_21 k5 fuel v1 v2 v3 v4 (v5 + 2) M)
    else
      (if v3 < 0 then
        (fMd_farOf_21 k5 fuel v1 v2 u6_63 v4 (v5 + 2) M)
      else
        (if v3 ≤ u6_63 then
          (fMd_farOf_21 k5 fuel v1 v2 v3 v4 (v5 + 2) M)
        else
          (fMd_farOf_21 k5 fuel v1 v2 u6_63 v4 (v5 + 2) M))))
def fMd_farOf_5 : Nat → Int32 → Int32 → Int32 → Int32 → zM → Option (Int32 × zM)
  | 0, _, _, _, _, _ => none
  | fuel + 1, v1, v2, v3, v4, M =>
  rd M 12 12 v1 fun x1 =>
  if x1 ≤ (v4 + 1) then
    (some (v3, M))
  else
    (fMd_farOf_21 (fMd_farOf_5 fuel) FU v1 v2 v3 v4 0 M)
def fMd_farOf (v1 : Int32) (v2 : Int32) (M : zM) : Option (Int32 × zM) :=
  fMd_farOf_5 FU v1 v2 (-1) 0 M
def fMd_goFrom_111 (k41 : Int32 → Int32 → Int32 → zM → Option (Unit × zM)) : Nat → Int32 → Int32 → Int32 → Int32 → Int32 → zM → Option (Unit × zM)
  | 0, _, _, _, _, _, _ => none
  | fuel + 1, v1, v2, v3, v4, v6, M =>
  if (M 0 0) ≤ v6 then
    (k41 v1 v2 v3 M)
  else
    (rd M 15 12 v6 fun x1 =>
    if (0 : Int32) ≤ x1 then
      (fMd_goFrom_111 k41 fuel v1 v2 v3 v4 (v6 + 1) M)
    else
      (cl (fMd_lineOf v4 v6 M) fun r3 M2 =>
      if r3 < 0 then
        (fMd_goFrom_111 k41 fuel v1 v2 v3 v4 (v6 + 1) M2)
      else
        (rd M2 15 12 v4 fun x4 =>
        wr M2 15 12 v6 (x4 + 1) fun M5 =>
        wr M5 7 12 v3 v6 fun M6 =>
        fMd_goFrom_111 k41 fuel v1 v2 (v3 + 1) v4 (v6 + 1) M6)))
def fMd_goFrom_83 (k41 : Int32 → Int32 → Int32 → zM → Option (Unit × zM)) (v1 : Int32) (v2 : Int32) (v3 : Int32) (v4 : Int32) (M : zM) : Option (Unit × zM) :=
  rd M 11 12 v1 fun x1 =>
  cl (fMd_put v4 x1 M) fun _ M2 =>
  rd M2 15 12 v4 fun x3 =>
  cl (fMd_put v4 x3 M2) fun _ M4 =>
  fMd_goFrom_111 k41 FU v1 v2 v3 v4 0 M4
def fMd_goFrom_41 : Nat → Int32 → Int32 → Int32 → zM → Option (Unit × zM)
  | 0, _, _, _, _ => none
  | fuel + 1, v1, v2, v3, M =>
  if v3 ≤ v2 then
    (some ((), M))
  else
    (rd M 7 12 v2 fun x1 =>
    cl (fMd_farOf v1 x1 M) fun r3 M2 =>
    if r3 < 0 then
      (fMd_goFrom_83 (fMd_goFrom_41 fuel) v1 (v2 + 1) v3 x1 M2)
    else
      (rd M2 15 12 x1 fun x4 =>
      if r3 ≤ x4 then
        (fMd_goFrom_41 fuel v1 (v2 + 1) v3 M2)
      else
        (fMd_goFrom_83 (fMd_goFrom_41 fuel) v1 (v2 + 1) v3 x1 M2)))
def fMd_goFrom_2 : Nat → Int32 → Int32 → zM → Option (Unit × zM)
  | 0, _, _, _ => none
  | fuel + 1, v1, v2, M =>
  if (M 0 0) ≤ v2 then
    (wr M 15 12 v1 0 fun M1 =>
    wr M1 7 12 0 v1 fun M2 =>
    fMd_goFrom_41 FU v1 0 1 M2)
  else
    (wr M 15 12 v2 (-1) fun M3 =>
    fMd_goFrom_2 fuel v1 (v2 + 1) M3)
def fMd_goFrom (v1 : Int32) (M : zM) : Option (Unit × zM) :=
  fMd_goFrom_2 FU v1 0 M
def fMd_findHubs_16 (k6 : Int32 → zM → Option (Unit × zM)) : Nat → Int32 → Int32 → zM → Option (Unit × zM)
  | 0, _, _, _ => none
  | fuel + 1, v1, v2, M =>
  if (M 0 0) ≤ v2 then
    (k6 (v1 + 1) M)
  else
    (rd M 11 12 v2 fun x1 =>
    if ¬ x1 = v1 then
      (fMd_findHubs_16 k6 fuel v1 (v2 + 1) M)
    else
      (cl (fMd_goFrom v2 M) fun _ M2 =>
      fMd_findHubs_16 k6 fuel v1 (v2 + 1) M2))
def fMd_findHubs_6 : Nat → Int32 → zM → Option (Unit × zM)
  | 0, _, _ => none
  | fuel + 1, v1, M =>
  if (M 0 0) ≤ v1 then
    (some ((), M))
  else
    (fMd_findHubs_16 (fMd_findHubs_6 fuel) FU v1 0 M)
def fMd_findHubs  (M : zM) : Option (Unit × zM) :=
  cl (fMd_findRanks  M) fun _ M1 =>
  fMd_findHubs_6 FU 0 M1
def fMd_findRows_44 (k34 : Int32 → Int32 → zM → Option (Unit × zM)) : Nat → Int32 → Int32 → Int32 → zM → Option (Unit × zM)
  | 0, _, _, _, _ => none
  | fuel + 1, v1, v2, v3, M =>
  if (M 0 0) ≤ v3 then
    (k34 v1 (v2 + 1) M)
  else
    (rd M 10 12 v3 fun x1 =>
    if ¬ x1 = v2 then
      (fMd_findRows_44 k34 fuel v1 v2 (v3 + 1) M)
    else
      (cl (fMd_lineOf v1 v3 M) fun r3 M2 =>
      if r3 < 0 then
        (fMd_findRows_44 k34 fuel v1 v2 (v3 + 1) M2)
      else
        (cl (fMd_put v1 v2 M2) fun _ M4 =>
        fMd_findRows_44 k34 fuel v1 v2 (v3 + 1) M4)))
def fMd_findRows_34 (k6 : Int32 → zM → Option (Unit × zM)) : Nat → Int32 → Int32 → zM → Option (Unit × zM)
  | 0, _, _, _ => none
  | fuel + 1, v1, v2, M =>
  if (M 0 0) ≤ v2 then
    (k6 (v1 + 1) M)
  else
    (fMd_findRows_44 (fMd_findRows_34 k6 fuel) FU v1 v2 0 M)
def fMd_findRows_6 : Nat → Int32 → zM → Option (Unit × zM)
  | 0, _, _ => none
  | fuel + 1, v1, M =>
  if (M 0 0) ≤ v1 then
    (some ((), M))
  else
    (rd M 10 12 v1 fun x1 =>
    cl (fMd_put v1 x1 M) fun _ M2 =>
    rd M2 10 12 v1 fun x3 =>
    lt (x3 + 1) fun u2_33 =>
    fMd_findRows_34 (fMd_findRows_6 fuel) FU v1 u2_33 M2)
def fMd_findRows  (M : zM) : Option (Unit × zM) :=
  cl (fMd_findTurns  M) fun _ M1 =>
  fMd_findRows_6 FU 0 M1
def fMd_findNames_101 : Nat → Int32 → Int32 → zM → Option (Unit × zM)
  | 0, _, _, _ => none
  | fuel + 1, v1, v2, M =>
  if (M 0 0) ≤ v2 then
    (some ((), M))
  else
    (if ¬ v1 = 3 then
      (some ((), M))
    else
      (cl (fMd_wayUp v2 M) fun r2 M1 =>
      cl (fMd_put v2 r2 M1) fun _ M3 =>
      fMd_findNames_101 fuel v1 (v2 + 1) M3))
def fMd_findNames_59 : Nat → Int32 → Int32 → zM → Option (Unit × zM)
  | 0, _, _, _ => none
  | fuel + 1, v1, v2, M =>
  if (M 0 0) ≤ v2 then
    (fMd_findNames_101 FU v1 0 M)
  else
    (if ¬ v1 = 0 then
      (fMd_findNames_101 FU v1 0 M)
    else
      (rd M 8 12 v2 fun x1 =>
      cl (fMd_put v2 x1 M) fun _ M2 =>
      rd M2 9 12 v2 fun x3 =>
      cl (fMd_put v2 x3 M2) fun _ M4 =>
      fMd_findNames_59 fuel v1 (v2 + 1) M4))
def fMd_findNames_6 : Nat → Int32 → Int32 → zM → Option (Unit × zM)
  | 0, _, _, _ => none
  | fuel + 1, v1, v2, M =>
  if (12 : Int32) ≤ v2 then
    (if ¬ v1 = 0 then
      (if ¬ v1 = 1 then
        (if ¬ v1 = 2 then
          (fMd_findNames_59 FU v1 0 M)
        else
          (cl (fMd_findHubs  M) fun _ M1 =>
          fMd_findNames_59 FU v1 0 M1))
      else
        (cl (fMd_findRows  M) fun _ M2 =>
        fMd_findNames_59 FU v1 0 M2))
    else
      (cl (fMd_findSpans  M) fun _ M3 =>
      fMd_findNames_59 FU v1 0 M3))
  else
    (wr M 12 12 v2 0 fun M4 =>
    fMd_findNames_6 fuel v1 (v2 + 1) M4)
def fMd_findNames (v1 : Int32) (M : zM) : Option (Unit × zM) :=
  cl (fMd_findTree  M) fun _ M1 =>
  fMd_findNames_6 FU v1 0 M1
def fMd_count_8 : Nat → Int32 → Int32 → Int32 → zM → Option (Int32 × zM)
  | 0, _, _, _, _ => none
  | fuel + 1, v1, v2, v3, M =>
  if (M 0 0) ≤ v3 then
    (zsw v1 0 [
      (some ((M 0 0), M)),
      (some ((M 0 1), M)),
      (some ((M 0 10), M)),
      (some ((M 0 9), M)),
      (rd M 17 3 0 fun x1 =>
      cl (fMd_bit x1 M) fun r3 M2 =>
      rd M2 17 3 1 fun x4 =>
      cl (fMd_bit x4 M2) fun r6 M5 =>
      rd M5 17 3 2 fun x7 =>
      cl (fMd_bit x7 M5) fun r9 M8 =>
      some (((r3 + r6) + r9), M8)),
      (some ((M 0 29), M)),
      (some ((M 0 35), M)),
      (some (v2, M))]
      (some ((-1002), M)))
  else
    (cl (fMd_degree v3 M) fun r11 M10 =>
    if r11 ≤ v2 then
      (fMd_count_8 fuel v1 v2 (v3 + 1) M10)
    else
      (cl (fMd_degree v3 M10) fun r13 M12 =>
      fMd_count_8 fuel v1 r13 (v3 + 1) M12))
def fMd_count (v1 : Int32) (M : zM) : Option (Int32 × zM) :=
  cl (fMd_findTree  M) fun _ M1 =>
  fMd_count_8 FU v1 0 0 M1
def fMd_told (v1 : Int32) (v2 : Int32) (M : zM) : Option (Int32 × zM) :=
  cl (fMd_noPost v1 M) fun r2 M1 =>
  if r2 = 0 then
    (cl (fMd_findTree  M1) fun _ M3 =>
    cl (fMd_findTurns  M3) fun _ M4 =>
    cl (fMd_findRanks  M4) fun _ M5 =>
    zsw v2 0 [
      (rd M5 3 12 v1 fun x6 =>
      some (x6, M5)),
      (rd M5 4 12 v1 fun x7 =>
      some (x7, M5)),
      (cl (fMd_degree v1 M5) fun r9 M8 =>
      some (r9, M8)),
      (rd M5 5 12 v1 fun x10 =>
      some (x10, M5)),
      (rd M5 10 12 v1 fun x11 =>
      some (x11, M5)),
      (rd M5 11 12 v1 fun x12 =>
      some (x12, M5))]
      (some ((-1002), M5)))
  else
    (some ((-1001), M1))
def fMd_lineName_16 : Nat → Int32 → Int32 → Int32 → zM → Option (Int32 × zM)
  | 0, _, _, _, _ => none
  | fuel + 1, v1, v2, v3, M =>
  if (M 0 1) ≤ v3 then
    (some (v2, M))
  else
    (rd M 1 30 v3 fun x1 =>
    cl (fMd_wayUp x1 M) fun r3 M2 =>
    rd M2 2 30 v3 fun x4 =>
    cl (fMd_wayUp x4 M2) fun r6 M5 =>
    lt (r3 ^^^ r6) fun u4_45 =>
    cl (fMd_isTreeLine v3 M5) fun r8 M7 =>
    if ¬ r8 = 0 then
      (lt (v2 ||| 0) fun u2_74 =>
      fMd_lineName_16 fuel v1 u2_74 (v3 + 1) M7)
    else
      (if ¬ ((zshr u4_45 v1) &&& 1) = 1 then
        (lt (v2 ||| 0) fun u2_74 =>
        fMd_lineName_16 fuel v1 u2_74 (v3 + 1) M7)
      else
        (lt (v2 ||| (zshl 1 v3)) fun u2_74 =>
        fMd_lineName_16 fuel v1 u2_74 (v3 + 1) M7)))
def fMd_lineName (v1 : Int32) (M : zM) : Option (Int32 × zM) :=
  cl (fMd_isTreeLine v1 M) fun r2 M1 =>
  if ¬ r2 = 0 then
    (fMd_lineName_16 FU v1 0 0 M1)
  else
    (some ((zshl 1 v1), M1))
def fMd_lines (v1 : Int32) (v2 : Int32) (M : zM) : Option (Int32 × zM) :=
  cl (fMd_noLine v1 M) fun r2 M1 =>
  if r2 = 0 then
    (cl (fMd_findTree  M1) fun _ M3 =>
    zsw v2 0 [
      (rd M3 1 30 v1 fun x4 =>
      some (x4, M3)),
      (rd M3 2 30 v1 fun x5 =>
      some (x5, M3)),
      (cl (fMd_isTreeLine v1 M3) fun r7 M6 =>
      cl (fMd_bit r7 M6) fun r9 M8 =>
      some (r9, M8)),
      (cl (fMd_lineName v1 M3) fun r11 M10 =>
      some (r11, M10))]
      (some ((-1002), M3)))
  else
    (some ((-1001), M1))
def fMd_name (v1 : Int32) (v2 : Int32) (v3 : Int32) (M : zM) : Option (Int32 × zM) :=
  cl (fMd_noPost v2 M) fun r2 M1 =>
  if r2 = 0 then
    (cl (fMd_in v1.toInt64 0 3 M1) fun r4 M3 =>
    if ¬ r4 = 0 then
      (cl (fMd_findNames v1 M3) fun _ M5 =>
      if ¬ v3 = (-1) then
        (rd M5 12 12 v2 fun x6 =>
        cl (fMd_in v3.toInt64 0 ((x6 - 1).toInt64) M5) fun r8 M7 =>
        if r8 = 0 then
          (some ((-1), M7))
        else
          (rd M7 13 312 ((26 * v2) + v3) fun x9 =>
          some (x9, M7)))
      else
        (rd M5 12 12 v2 fun x10 =>
        some (x10, M5)))
    else
      (some ((-1002), M3)))
  else
    (some ((-1001), M1))
def fMd_bitsOf_2 : Nat → Int32 → Int32 → Int32 → zM → Option (Int32 × zM)
  | 0, _, _, _, _ => none
  | fuel + 1, v1, v2, v3, M =>
  if (zshr ((M 0 0) - 1) v3) ≤ 0 then
    (if ¬ v1 = 3 then
      (rd M 12 12 v2 fun x1 =>
      some ((v3 * x1), M))
    else
      (some ((M 0 10), M)))
  else
    (fMd_bitsOf_2 fuel v1 v2 (v3 + 1) M)
def fMd_bitsOf (v1 : Int32) (v2 : Int32) (M : zM) : Option (Int32 × zM) :=
  fMd_bitsOf_2 FU v1 v2 1 M
def fMd_bits_41 : Nat → Int32 → Int32 → Int32 → Int32 → Int32 → zM → Option (Int32 × zM)
  | 0, _, _, _, _, _, _ => none
  | fuel + 1, v1, v2, v3, v4, v5, M =>
  if (M 0 0) ≤ v5 then
    (if ¬ v2 = 0 then
      (if ¬ v2 = 1 then
        (some (v4, M))
      else
        (some (v3, M)))
    else
      (cl (fMd_bitsOf v1 v4 M) fun r2 M1 =>
      some (r2, M1)))
  else
    (cl (fMd_bitsOf v1 v5 M) fun r4 M3 =>
    lt (v3 + r4) fun u3_59 =>
    cl (fMd_bitsOf v1 v5 M3) fun r6 M5 =>
    cl (fMd_bitsOf v1 v4 M5) fun r8 M7 =>
    if r6 ≤ r8 then
      (fMd_bits_41 fuel v1 v2 u3_59 v4 (v5 + 1) M7)
    else
      (fMd_bits_41 fuel v1 v2 u3_59 v5 (v5 + 1) M7))
def fMd_bits (v1 : Int32) (v2 : Int32) (M : zM) : Option (Int32 × zM) :=
  cl (fMd_in v1.toInt64 0 3 M) fun r2 M1 =>
  if r2 = 0 then
    (some ((-1002), M1))
  else
    (cl (fMd_in v2.toInt64 0 2 M1) fun r4 M3 =>
    if ¬ r4 = 0 then
      (cl (fMd_findNames v1 M3) fun _ M5 =>
      fMd_bits_41 FU v1 v2 0 0 0 M5)
    else
      (some ((-1002), M3)))
def fMd_sayOf_117 : Nat → Int32 → Int32 → Int32 → Int32 → zM → Option (Int32 × zM)
  | 0, _, _, _, _, _ => none
  | fuel + 1, v2, v3, v4, v5, M =>
  rd M 12 12 v3 fun x1 =>
  if x1 ≤ v5 then
    (cl (fMd_bit v4 M) fun r3 M2 =>
    some (r3, M2))
  else
    (if ¬ v4 = 0 then
      (fMd_sayOf_117 fuel v2 v3 1 (v5 + 1) M)
    else
      (rd M 13 312 ((26 * v3) + v5) fun x4 =>
      rd M 13 312 (26 * v2) fun x5 =>
      if ¬ x4 = x5 then
        (fMd_sayOf_117 fuel v2 v3 0 (v5 + 1) M)
      else
        (fMd_sayOf_117 fuel v2 v3 1 (v5 + 1) M)))
def fMd_sayOf_61 : Nat → Int32 → Int32 → Int32 → Int32 → zM → Option (Int32 × zM)
  | 0, _, _, _, _, _ => none
  | fuel + 1, v2, v3, v4, v5, M =>
  rd M 12 12 v2 fun x1 =>
  if x1 ≤ v5 then
    (fMd_sayOf_117 FU v2 v3 v4 1 M)
  else
    (if ¬ v4 = 0 then
      (fMd_sayOf_61 fuel v2 v3 1 (v5 + 1) M)
    else
      (rd M 13 312 ((26 * v2) + v5) fun x2 =>
      rd M 13 312 (26 * v3) fun x3 =>
      if ¬ x2 = x3 then
        (fMd_sayOf_61 fuel v2 v3 0 (v5 + 1) M)
      else
        (fMd_sayOf_61 fuel v2 v3 1 (v5 + 1) M)))
def fMd_sayOf (v1 : Int32) (v2 : Int32) (v3 : Int32) (M : zM) : Option (Int32 × zM) :=
  if ¬ v1 = 0 then
    (if ¬ v1 = 2 then
      (fMd_sayOf_61 FU v2 v3 0 1 M)
    else
      (cl (fMd_farOf v2 v3 M) fun r2 M1 =>
      some (r2, M1)))
  else
    (rd M 13 312 (26 * v3) fun x3 =>
    rd M 13 312 (26 * v2) fun x4 =>
    rd M 13 312 ((26 * v2) + 1) fun x5 =>
    cl (fMd_in x3.toInt64 x4.toInt64 x5.toInt64 M) fun r7 M6 =>
    cl (fMd_bit r7 M6) fun r9 M8 =>
    some (r9, M8))
def fMd_ask (v1 : Int32) (v2 : Int32) (v3 : Int32) (M : zM) : Option (Int32 × zM) :=
  cl (fMd_noPost v2 M) fun r2 M1 =>
  if ¬ r2 = 0 then
    (some ((-1001), M1))
  else
    (cl (fMd_noPost v3 M1) fun r4 M3 =>
    if r4 = 0 then
      (cl (fMd_in v1.toInt64 0 2 M3) fun r6 M5 =>
      if ¬ r6 = 0 then
        (cl (fMd_findNames v1 M5) fun _ M7 =>
        cl (fMd_sayOf v1 v2 v3 M7) fun r9 M8 =>
        some (r9, M8))
      else
        (some ((-1002), M5)))
    else
      (some ((-1001), M3)))
def fMd_isParted_94 (k76 : Int32 → Int32 → Int32 → zM → Option (Int32 × zM)) : Nat → Int32 → Int32 → Int32 → Int32 → Int32 → Int32 → zM → Option (Int32 × zM)
  | 0, _, _, _, _, _, _, _ => none
  | fuel + 1, v4, v5, v6, v7, v8, v9, M =>
  if v4 ≤ v9 then
    (if ¬ v7 = 0 then
      (k76 v4 v5 (v6 + 1) M)
    else
      (zmod v8 2 fun z1 =>
      if ¬ z1 = 1 then
        (k76 v4 v5 (v6 + 1) M)
      else
        (zbl 1 (some (1, M)))))
  else
    (if ¬ ((zshr v6 v9) &&& 1) = 1 then
      (fMd_isParted_94 k76 fuel v4 v5 v6 v7 v8 (v9 + 1) M)
    else
      (rd M 16 6 v9 fun x2 =>
      cl (fMd_lineName x2 M) fun r4 M3 =>
      lt (v7 ^^^ r4) fun u7_126 =>
      rd M3 16 6 v9 fun x5 =>
      lt (v8 + ((zshr v5 x5) &&& 1)) fun u8_143 =>
      fMd_isParted_94 k76 fuel v4 v5 v6 u7_126 u8_143 (v9 + 1) M3))
def fMd_isParted_76 : Nat → Int32 → Int32 → Int32 → zM → Option (Int32 × zM)
  | 0, _, _, _, _ => none
  | fuel + 1, v4, v5, v6, M =>
  if (zshl 1 v4) ≤ v6 then
    (zbl 0 (some (0, M)))
  else
    (fMd_isParted_94 (fMd_isParted_76 fuel) FU v4 v5 v6 0 0 0 M)
def fMd_isParted_23 : Nat → Int32 → Int32 → Int32 → Int32 → Int32 → zM → Option (Int32 × zM)
  | 0, _, _, _, _, _, _ => none
  | fuel + 1, v1, v2, v3, v4, v5, M =>
  if (M 0 1) ≤ v5 then
    (cl (fMd_wayUp v1 M) fun r2 M1 =>
    cl (fMd_wayUp v2 M1) fun r4 M3 =>
    lt (r2 ^^^ r4) fun u5_71 =>
    fMd_isParted_76 FU v4 u5_71 1 M3)
  else
    (if ¬ ((zshr v3 v5) &&& 1) = 1 then
      (fMd_isParted_23 fuel v1 v2 v3 v4 (v5 + 1) M)
    else
      (wr M 16 6 v4 v5 fun M5 =>
      fMd_isParted_23 fuel v1 v2 v3 (v4 + 1) (v5 + 1) M5))
def fMd_isParted (v1 : Int32) (v2 : Int32) (v3 : Int32) (M : zM) : Option (Int32 × zM) :=
  rd M 4 12 v1 fun x1 =>
  rd M 4 12 v2 fun x2 =>
  if x1 = x2 then
    (fMd_isParted_23 FU v1 v2 v3 0 0 M)
  else
    (zbl 1 (some (1, M)))
def fMd_parted (v1 : Int32) (v2 : Int32) (v3 : Int32) (M : zM) : Option (Int32 × zM) :=
  cl (fMd_noPost v1 M) fun r2 M1 =>
  if ¬ r2 = 0 then
    (some ((-1001), M1))
  else
    (cl (fMd_noPost v2 M1) fun r4 M3 =>
    if ¬ r4 = 0 then
      (some ((-1001), M3))
    else
      (if v3 < 0 then
        (some ((-1001), M3))
      else
        (if (lg_cmp (zlshr v3.toInt64 (M3 0 1)) 0) = 0 then
          (cl (fMd_ones v3 M3) fun r6 M5 =>
          if r6 ≤ 6 then
            (cl (fMd_findTree  M5) fun _ M7 =>
            cl (fMd_isParted v1 v2 v3 M7) fun r9 M8 =>
            cl (fMd_bit r9 M8) fun r11 M10 =>
            some (r11, M10))
          else
            (some ((-1002), M5)))
        else
          (some ((-1001), M3)))))
def fMd_bookAt (v1 : Int32) (v2 : Int32) (M : zM) : Option (Int32 × zM) :=
  some ((26 * ((12 * v1) + v2)), M)
def fMd_isInBook (v1 : Int32) (v2 : Int32) (M : zM) : Option (Int32 × zM) :=
  rd M 17 3 v1 fun x1 =>
  if x1 = 0 then
    (zbl 0 (some (0, M)))
  else
    (rd M 18 3 v1 fun x2 =>
    cl (fMd_in v2.toInt64 0 ((x2 - 1).toInt64) M) fun r4 M3 =>
    if r4 = 0 then
      (zbl 0 (some (0, M3)))
    else
      (zbl 1 (some (1, M3))))
def fMd_checkOf_21 : Nat → Int32 → Int32 → Int32 → Int32 → Int32 → zM → Option (Int32 × zM)
  | 0, _, _, _, _, _, _ => none
  | fuel + 1, v1, v2, v3, v4, v5, M =>
  if v3 ≤ v5 then
    (zmod v4 101 fun z1 =>
    some (z1, M))
  else
    (cl (fMd_bookAt v1 v2 M) fun r3 M2 =>
    rd M2 20 936 (r3 + v5) fun x4 =>
    lt (v4 + (x4 * (v5 + 1))) fun u4_49 =>
    fMd_checkOf_21 fuel v1 v2 v3 u4_49 (v5 + 1) M2)
def fMd_checkOf (v1 : Int32) (v2 : Int32) (M : zM) : Option (Int32 × zM) :=
  rd M 19 36 ((12 * v1) + v2) fun x1 =>
  lt (7 * x1) fun u4_16 =>
  fMd_checkOf_21 FU v1 v2 x1 u4_16 0 M
def fMd_isStale_64 : Nat → Int32 → Int32 → Int32 → Int32 → Int32 → Int32 → zM → Option (Int32 × zM)
  | 0, _, _, _, _, _, _, _ => none
  | fuel + 1, v1, v2, v3, v4, v5, v6, M =>
  if v4 ≤ v6 then
    (zbl v5 (some (v5, M)))
  else
    (if v3 = 0 then
      (zbl v5 (some (v5, M)))
    else
      (if ¬ v5 = 0 then
        (zbl v5 (some (v5, M)))
      else
        (cl (fMd_bookAt v1 v2 M) fun r2 M1 =>
        rd M1 20 936 (r2 + v6) fun x3 =>
        rd M1 13 312 ((26 * v2) + v6) fun x4 =>
        if x3 = x4 then
          (fMd_isStale_64 fuel v1 v2 v3 v4 0 (v6 + 1) M1)
        else
          (fMd_isStale_64 fuel v1 v2 v3 v4 1 (v6 + 1) M1))))
def fMd_isStale_21 (v1 : Int32) (v2 : Int32) (v3 : Int32) (vs0 : Int32) (vs1 : Int32) (M : zM) : Option (Int32 × zM) :=
  if vs1 = vs0 then
    (rd M 19 36 ((12 * v1) + v2) fun x1 =>
    if v3 = 0 then
      (fMd_isStale_64 FU v1 v2 v3 x1 0 0 M)
    else
      (rd M 12 12 v2 fun x2 =>
      if x1 = x2 then
        (fMd_isStale_64 FU v1 v2 v3 x1 0 0 M)
      else
        (fMd_isStale_64 FU v1 v2 v3 x1 1 0 M)))
  else
    (zbl 1 (some (1, M)))
def fMd_isStale (v1 : Int32) (v2 : Int32) (M : zM) : Option (Int32 × zM) :=
  cl (fMd_isInBook v1 v2 M) fun r2 M1 =>
  cl (fMd_noPost v2 M1) fun r4 M3 =>
  if ¬ r4 = 0 then
    (fMd_isStale_21 v1 v2 r2 0 r2 M3)
  else
    (fMd_isStale_21 v1 v2 r2 1 r2 M3)
def fMd_staleSet_9 : Nat → Int32 → Int32 → Int32 → zM → Option (Int32 × zM)
  | 0, _, _, _, _ => none
  | fuel + 1, v1, v2, v3, M =>
  if (12 : Int32) ≤ v3 then
    (some (v2, M))
  else
    (cl (fMd_isStale v1 v3 M) fun r2 M1 =>
    if r2 = 0 then
      (lt (v2 ||| 0) fun u2_33 =>
      fMd_staleSet_9 fuel v1 u2_33 (v3 + 1) M1)
    else
      (lt (v2 ||| (zshl 1 v3)) fun u2_33 =>
      fMd_staleSet_9 fuel v1 u2_33 (v3 + 1) M1))
def fMd_staleSet (v1 : Int32) (M : zM) : Option (Int32 × zM) :=
  cl (fMd_findNames v1 M) fun _ M1 =>
  fMd_staleSet_9 FU v1 0 0 M1
def fMd_learn_72 (k44 : Int32 → Int32 → Int32 → zM → Option (Int32 × zM)) : Nat → Int32 → Int32 → Int32 → Int32 → zM → Option (Int32 × zM)
  | 0, _, _, _, _, _ => none
  | fuel + 1, v1, v2, v3, v4, M =>
  rd M 12 12 v3 fun x1 =>
  if x1 ≤ v4 then
    (cl (fMd_checkOf v1 v3 M) fun r3 M2 =>
    wr M2 21 36 ((12 * v1) + v3) r3 fun M4 =>
    k44 v1 v2 (v3 + 1) M4)
  else
    (cl (fMd_bookAt v1 v3 M) fun r6 M5 =>
    rd M5 13 312 ((26 * v3) + v4) fun x7 =>
    wr M5 20 936 (r6 + v4) x7 fun M8 =>
    fMd_learn_72 k44 fuel v1 v2 v3 (v4 + 1) M8)
def fMd_learn_44 : Nat → Int32 → Int32 → Int32 → zM → Option (Int32 × zM)
  | 0, _, _, _, _ => none
  | fuel + 1, v1, v2, v3, M =>
  if (M 0 0) ≤ v3 then
    (some (v2, M))
  else
    (rd M 12 12 v3 fun x1 =>
    wr M 19 36 ((12 * v1) + v3) x1 fun M2 =>
    fMd_learn_72 (fMd_learn_44 fuel) FU v1 v2 v3 0 M2)
def fMd_learn (v1 : Int32) (M : zM) : Option (Int32 × zM) :=
  cl (fMd_in v1.toInt64 0 2 M) fun r2 M1 =>
  if ¬ r2 = 0 then
    (cl (fMd_staleSet v1 M1) fun r4 M3 =>
    cl (fMd_ones r4 M3) fun r6 M5 =>
    wr M5 17 3 v1 (vp_nar .boolean 1) fun M7 =>
    wr M7 18 3 v1 (M7 0 0) fun M8 =>
    fMd_learn_44 FU v1 r6 0 M8)
  else
    (some ((-1002), M1))
def fMd_forge (v1 : Int32) (v2 : Int32) (v3 : Int32) (v4 : Int32) (M : zM) : Option (Int32 × zM) :=
  cl (fMd_in v1.toInt64 0 2 M) fun r2 M1 =>
  if ¬ r2 = 0 then
    (cl (fMd_isInBook v1 v2 M1) fun r4 M3 =>
    if ¬ r4 = 0 then
      (rd M3 19 36 ((12 * v1) + v2) fun x5 =>
      cl (fMd_in v3.toInt64 0 ((x5 - 1).toInt64) M3) fun r7 M6 =>
      if r7 = 0 then
        (some ((-1002), M6))
      else
        (cl (fMd_in v4.toInt64 0 99 M6) fun r9 M8 =>
        if ¬ r9 = 0 then
          (cl (fMd_bookAt v1 v2 M8) fun r11 M10 =>
          rd M10 20 936 (r11 + v3) fun x12 =>
          cl (fMd_bookAt v1 v2 M10) fun r14 M13 =>
          wr M13 20 936 (r14 + v3) v4 fun M15 =>
          some (x12, M15))
        else
          (some ((-1002), M8))))
    else
      (some ((-1001), M3)))
  else
    (some ((-1002), M1))
def fMd_book (v1 : Int32) (v2 : Int32) (v3 : Int32) (M : zM) : Option (Int32 × zM) :=
  cl (fMd_in v1.toInt64 0 2 M) fun r2 M1 =>
  if ¬ r2 = 0 then
    (cl (fMd_isInBook v1 v2 M1) fun r4 M3 =>
    if ¬ r4 = 0 then
      (rd M3 19 36 ((12 * v1) + v2) fun x5 =>
      if ¬ v3 = (-1) then
        (if ¬ v3 = (-2) then
          (cl (fMd_in v3.toInt64 0 ((x5 - 1).toInt64) M3) fun r7 M6 =>
          if r7 = 0 then
            (some ((-1), M6))
          else
            (cl (fMd_bookAt v1 v2 M6) fun r9 M8 =>
            rd M8 20 936 (r9 + v3) fun x10 =>
            some (x10, M8)))
        else
          (rd M3 21 36 ((12 * v1) + v2) fun x11 =>
          some (x11, M3)))
      else
        (some (x5, M3)))
    else
      (some ((-1001), M3)))
  else
    (some ((-1002), M1))
def fMd_isDamaged (v1 : Int32) (v2 : Int32) (M : zM) : Option (Int32 × zM) :=
  cl (fMd_checkOf v1 v2 M) fun r2 M1 =>
  rd M1 21 36 ((12 * v1) + v2) fun x3 =>
  if r2 = x3 then
    (zbl 0 (some (0, M1)))
  else
    (zbl 1 (some (1, M1)))
def fMd_answer_96 (k63 : Int32 → Int32 → Int32 → Int32 → zM → Option (Int32 × zM)) : Nat → Int32 → Int32 → Int32 → Int32 → Int32 → zM → Option (Int32 × zM)
  | 0, _, _, _, _, _, _ => none
  | fuel + 1, v1, v2, v3, v4, v5, M =>
  rd M 12 12 v4 fun x1 =>
  if x1 ≤ v5 then
    (k63 v1 v2 v3 (v4 + 1) M)
  else
    (cl (fMd_bookAt v1 v4 M) fun r3 M2 =>
    rd M2 20 936 (r3 + v5) fun x4 =>
    wr M2 13 312 ((26 * v4) + v5) x4 fun M5 =>
    fMd_answer_96 k63 fuel v1 v2 v3 v4 (v5 + 1) M5)
def fMd_answer_63 : Nat → Int32 → Int32 → Int32 → Int32 → zM → Option (Int32 × zM)
  | 0, _, _, _, _, _ => none
  | fuel + 1, v1, v2, v3, v4, M =>
  rd M 18 3 v1 fun x1 =>
  if x1 ≤ v4 then
    (cl (fMd_sayOf v1 v2 v3 M) fun r3 M2 =>
    some (r3, M2))
  else
    (rd M 19 36 ((12 * v1) + v4) fun x4 =>
    wr M 12 12 v4 x4 fun M5 =>
    fMd_answer_96 (fMd_answer_63 fuel) FU v1 v2 v3 v4 0 M5)
def fMd_answer (v1 : Int32) (v2 : Int32) (v3 : Int32) (M : zM) : Option (Int32 × zM) :=
  cl (fMd_in v1.toInt64 0 2 M) fun r2 M1 =>
  if ¬ r2 = 0 then
    (cl (fMd_isInBook v1 v2 M1) fun r4 M3 =>
    if r4 = 0 then
      (some ((-1001), M3))
    else
      (cl (fMd_isInBook v1 v3 M3) fun r6 M5 =>
      if ¬ r6 = 0 then
        (cl (fMd_isDamaged v1 v2 M5) fun r8 M7 =>
        if ¬ r8 = 0 then
          (some ((-1005), M7))
        else
          (cl (fMd_isDamaged v1 v3 M7) fun r10 M9 =>
          if r10 = 0 then
            (fMd_answer_63 FU v1 v2 v3 0 M9)
          else
            (some ((-1005), M9))))
      else
        (some ((-1001), M5))))
  else
    (some ((-1002), M1))
def fMd_stale (v1 : Int32) (M : zM) : Option (Int32 × zM) :=
  cl (fMd_in v1.toInt64 0 2 M) fun r2 M1 =>
  if ¬ r2 = 0 then
    (rd M1 17 3 v1 fun x3 =>
    if x3 = 0 then
      (some ((-1003), M1))
    else
      (cl (fMd_staleSet v1 M1) fun r5 M4 =>
      some (r5, M4)))
  else
    (some ((-1002), M1))
def fMd_damaged_33 : Nat → Int32 → Int32 → Int32 → zM → Option (Int32 × zM)
  | 0, _, _, _, _ => none
  | fuel + 1, v1, v2, v3, M =>
  rd M 18 3 v1 fun x1 =>
  if x1 ≤ v3 then
    (some (v2, M))
  else
    (cl (fMd_isDamaged v1 v3 M) fun r3 M2 =>
    cl (fMd_bit r3 M2) fun r5 M4 =>
    lt (v2 + r5) fun u2_54 =>
    fMd_damaged_33 fuel v1 u2_54 (v3 + 1) M4)
def fMd_damaged (v1 : Int32) (M : zM) : Option (Int32 × zM) :=
  cl (fMd_in v1.toInt64 0 2 M) fun r2 M1 =>
  if ¬ r2 = 0 then
    (rd M1 17 3 v1 fun x3 =>
    if ¬ x3 = 0 then
      (fMd_damaged_33 FU v1 0 0 M1)
    else
      (some ((-1003), M1)))
  else
    (some ((-1002), M1))
def fMd_nextOf_63 : Nat → Int32 → Int32 → Int32 → Int32 → zM → Option (Int32 × zM)
  | 0, _, _, _, _, _ => none
  | fuel + 1, v1, v2, v3, v4, M =>
  if (M 0 0) ≤ v4 then
    (some (v3, M))
  else
    (rd M 3 12 v4 fun x1 =>
    if ¬ x1 = v1 then
      (fMd_nextOf_63 fuel v1 v2 v3 (v4 + 1) M)
    else
      (rd M 8 12 v2 fun x2 =>
      rd M 8 12 v4 fun x3 =>
      rd M 9 12 v4 fun x4 =>
      cl (fMd_in x2.toInt64 x3.toInt64 x4.toInt64 M) fun r6 M5 =>
      if r6 = 0 then
        (fMd_nextOf_63 fuel v1 v2 v3 (v4 + 1) M5)
      else
        (fMd_nextOf_63 fuel v1 v2 v4 (v4 + 1) M5)))
def fMd_nextOf (v1 : Int32) (v2 : Int32) (M : zM) : Option (Int32 × zM) :=
  if ¬ v1 = v2 then
    (rd M 4 12 v1 fun x1 =>
    rd M 4 12 v2 fun x2 =>
    if x1 = x2 then
      (rd M 8 12 v2 fun x3 =>
      rd M 8 12 v1 fun x4 =>
      rd M 9 12 v1 fun x5 =>
      cl (fMd_in x3.toInt64 x4.toInt64 x5.toInt64 M) fun r7 M6 =>
      if ¬ r7 = 0 then
        (fMd_nextOf_63 FU v1 v2 (-1) 0 M6)
      else
        (rd M6 3 12 v1 fun x8 =>
        some (x8, M6)))
    else
      (some ((-1), M)))
  else
    (some (v2, M))
def fMd_next (v1 : Int32) (v2 : Int32) (M : zM) : Option (Int32 × zM) :=
  cl (fMd_noPost v1 M) fun r2 M1 =>
  if ¬ r2 = 0 then
    (some ((-1001), M1))
  else
    (cl (fMd_noPost v2 M1) fun r4 M3 =>
    if r4 = 0 then
      (cl (fMd_findNames 0 M3) fun _ M5 =>
      cl (fMd_nextOf v1 v2 M5) fun r7 M6 =>
      some (r7, M6))
    else
      (some ((-1001), M3)))
def fMd_goesOf_31 (v3 : Int32) (v4 : Int32) (M : zM) : Option (Int32 × zM) :=
  if (0 : Int32) ≤ v4 then
    (some (v3, M))
  else
    (some ((-1), M))
def fMd_goesOf_5 : Nat → Int32 → Int32 → Int32 → zM → Option (Int32 × zM)
  | 0, _, _, _, _ => none
  | fuel + 1, v2, v3, v4, M =>
  if v4 = v2 then
    (fMd_goesOf_31 v3 v4 M)
  else
    (if v4 < 0 then
      (fMd_goesOf_31 v3 v4 M)
    else
      (cl (fMd_nextOf v4 v2 M) fun r2 M1 =>
      fMd_goesOf_5 fuel v2 (v3 + 1) r2 M1))
def fMd_goesOf (v1 : Int32) (v2 : Int32) (M : zM) : Option (Int32 × zM) :=
  fMd_goesOf_5 FU v2 0 v1 M
def fMd_goes (v1 : Int32) (v2 : Int32) (M : zM) : Option (Int32 × zM) :=
  cl (fMd_noPost v1 M) fun r2 M1 =>
  if ¬ r2 = 0 then
    (some ((-1001), M1))
  else
    (cl (fMd_noPost v2 M1) fun r4 M3 =>
    if r4 = 0 then
      (cl (fMd_findNames 0 M3) fun _ M5 =>
      cl (fMd_goesOf v1 v2 M5) fun r7 M6 =>
      some (r7, M6))
    else
      (some ((-1001), M3)))
def fMd_findWays_49 (k41 : Int32 → Int32 → zM → Option (Unit × zM)) : Nat → Int32 → Int32 → Int32 → zM → Option (Unit × zM)
  | 0, _, _, _, _ => none
  | fuel + 1, v2, v3, v4, M =>
  if (M 0 0) ≤ v4 then
    (k41 v2 (v3 + 1) M)
  else
    (rd M 15 12 v4 fun x1 =>
    if (0 : Int32) ≤ x1 then
      (fMd_findWays_49 k41 fuel v2 v3 (v4 + 1) M)
    else
      (rd M 7 12 v3 fun x2 =>
      cl (fMd_lineOf x2 v4 M) fun r4 M3 =>
      if r4 < 0 then
        (fMd_findWays_49 k41 fuel v2 v3 (v4 + 1) M3)
      else
        (rd M3 7 12 v3 fun x5 =>
        rd M3 15 12 x5 fun x6 =>
        wr M3 15 12 v4 (x6 + 1) fun M7 =>
        wr M7 7 12 v2 v4 fun M8 =>
        fMd_findWays_49 k41 fuel (v2 + 1) v3 (v4 + 1) M8)))
def fMd_findWays_41 : Nat → Int32 → Int32 → zM → Option (Unit × zM)
  | 0, _, _, _ => none
  | fuel + 1, v2, v3, M =>
  if v2 ≤ v3 then
    (some ((), M))
  else
    (fMd_findWays_49 (fMd_findWays_41 fuel) FU v2 v3 0 M)
def fMd_findWays_2 : Nat → Int32 → Int32 → zM → Option (Unit × zM)
  | 0, _, _, _ => none
  | fuel + 1, v1, v2, M =>
  if (M 0 0) ≤ v2 then
    (wr M 15 12 v1 0 fun M1 =>
    wr M1 7 12 0 v1 fun M2 =>
    fMd_findWays_41 FU 1 0 M2)
  else
    (wr M 15 12 v2 (-1) fun M3 =>
    fMd_findWays_2 fuel v1 (v2 + 1) M3)
def fMd_findWays (v1 : Int32) (M : zM) : Option (Unit × zM) :=
  fMd_findWays_2 FU v1 0 M
def fMd_stretch_118 (k52 : Int32 → Int32 → Int32 → Int32 → Int32 → Int32 → Int32 → zM → Option (Int32 × zM)) (v1 : Int32) (v6 : Int32) (v7 : Int32) (v8 : Int32) (M : zM) : Option (Int32 × zM) :=
  rd M 15 12 v7 fun x1 =>
  k52 v1 v8 x1 v6 v7 v6 (v7 + 1) M
def fMd_stretch_90 (k52 : Int32 → Int32 → Int32 → Int32 → Int32 → Int32 → Int32 → zM → Option (Int32 × zM)) (v1 : Int32) (v2 : Int32) (v3 : Int32) (v4 : Int32) (v5 : Int32) (v6 : Int32) (v7 : Int32) (vs0 : Int32) (M : zM) : Option (Int32 × zM) :=
  if vs0 ≤ 0 then
    (k52 v1 v2 v3 v4 v5 v6 (v7 + 1) M)
  else
    (if v4 < 0 then
      (fMd_stretch_118 k52 v1 v6 v7 vs0 M)
    else
      (rd M 15 12 v7 fun x1 =>
      if (vs0 * v3) ≤ (v2 * x1) then
        (k52 v1 v2 v3 v4 v5 v6 (v7 + 1) M)
      else
        (fMd_stretch_118 k52 v1 v6 v7 vs0 M)))
def fMd_stretch_52 (k34 : Int32 → Int32 → Int32 → Int32 → Int32 → Int32 → zM → Option (Int32 × zM)) : Nat → Int32 → Int32 → Int32 → Int32 → Int32 → Int32 → Int32 → zM → Option (Int32 × zM)
  | 0, _, _, _, _, _, _, _, _ => none
  | fuel + 1, v1, v2, v3, v4, v5, v6, v7, M =>
  if (M 0 0) ≤ v7 then
    (k34 v1 v2 v3 v4 v5 (v6 + 1) M)
  else
    (if v6 = v7 then
      (fMd_stretch_90 (fMd_stretch_52 k34 fuel) v1 v2 v3 v4 v5 v6 v7 0 M)
    else
      (rd M 15 12 v7 fun x1 =>
      if (0 : Int32) ≤ x1 then
        (cl (fMd_goesOf v6 v7 M) fun r3 M2 =>
        fMd_stretch_90 (fMd_stretch_52 k34 fuel) v1 v2 v3 v4 v5 v6 v7 r3 M2)
      else
        (fMd_stretch_90 (fMd_stretch_52 k34 fuel) v1 v2 v3 v4 v5 v6 v7 0 M)))
def fMd_stretch_155 : Nat → Int32 → Int32 → Int32 → Int32 → Int32 → Int32 → Int32 → zM → Option (Int32 × zM)
  | 0, _, _, _, _, _, _, _, _ => none
  | fuel + 1, v1, v2, v3, v4, v5, v6, v7, M =>
  if v7 = 0 then
    (if ¬ v1 = 0 then
      (if ¬ v1 = 1 then
        (if ¬ v1 = 2 then
          (some (v5, M))
        else
          (some (v4, M)))
      else
        (zdiv v3 v6 fun z1 =>
        some (z1, M)))
    else
      (zdiv v2 v6 fun z2 =>
      some (z2, M)))
  else
    (zmod v6 v7 fun z3 =>
    fMd_stretch_155 fuel v1 v2 v3 v4 v5 v7 z3 M)
def fMd_stretch_34 : Nat → Int32 → Int32 → Int32 → Int32 → Int32 → Int32 → zM → Option (Int32 × zM)
  | 0, _, _, _, _, _, _, _ => none
  | fuel + 1, v1, v2, v3, v4, v5, v6, M =>
  if (M 0 0) ≤ v6 then
    (fMd_stretch_155 FU v1 v2 v3 v4 v5 v2 v3 M)
  else
    (cl (fMd_findWays v6 M) fun _ M1 =>
    fMd_stretch_52 (fMd_stretch_34 fuel) FU v1 v2 v3 v4 v5 v6 0 M1)
def fMd_stretch (v1 : Int32) (M : zM) : Option (Int32 × zM) :=
  cl (fMd_in v1.toInt64 0 3 M) fun r2 M1 =>
  if ¬ r2 = 0 then
    (cl (fMd_findNames 0 M1) fun _ M3 =>
    fMd_stretch_34 FU v1 0 1 (-1) (-1) 0 M3)
  else
    (some ((-1002), M1))
def fMd_cut_135 (k80 : Int32 → Int32 → Int32 → Int32 → Int32 → zM → Option (Int32 × zM)) (k117 : Int32 → Int32 → Int32 → Int32 → Int32 → Int32 → zM → Option (Int32 × zM)) (v1 : Int32) (v2 : Int32) (v3 : Int32) (v4 : Int32) (v5 : Int32) (v6 : Int32) (vs0 : Int32) (vs1 : Int32) (M : zM) : Option (Int32 × zM) :=
  if vs0 ≤ vs1 then
    (k80 v1 v2 v3 v4 (v5 + 1) M)
  else
    (lt (((zshl 1 v4) ||| (zshl 1 v5)) ||| (zshl 1 v6)) fun u7_152 =>
    cl (fMd_isParted v1 v2 u7_152 M) fun r2 M1 =>
    if r2 = 0 then
      (k117 v1 v2 v3 v4 v5 (v6 + 1) M1)
    else
      (some (u7_152, M1)))
def fMd_cut_117 (k80 : Int32 → Int32 → Int32 → Int32 → Int32 → zM → Option (Int32 × zM)) : Nat → Int32 → Int32 → Int32 → Int32 → Int32 → Int32 → zM → Option (Int32 × zM)
  | 0, _, _, _, _, _, _, _ => none
  | fuel + 1, v1, v2, v3, v4, v5, v6, M =>
  if v3 ≤ 2 then
    (fMd_cut_135 k80 (fMd_cut_117 k80 fuel) v1 v2 v3 v4 v5 v6 (v5 + 1) v6 M)
  else
    (fMd_cut_135 k80 (fMd_cut_117 k80 fuel) v1 v2 v3 v4 v5 v6 (M 0 1) v6 M)
def fMd_cut_98 (k55 : Int32 → Int32 → Int32 → Int32 → zM → Option (Int32 × zM)) (k80 : Int32 → Int32 → Int32 → Int32 → Int32 → zM → Option (Int32 × zM)) (v1 : Int32) (v2 : Int32) (v3 : Int32) (v4 : Int32) (v5 : Int32) (vs0 : Int32) (vs1 : Int32) (M : zM) : Option (Int32 × zM) :=
  if vs0 ≤ vs1 then
    (k55 v1 v2 v3 (v4 + 1) M)
  else
    (if v3 ≤ 2 then
      (fMd_cut_117 k80 FU v1 v2 v3 v4 v5 v5 M)
    else
      (lt (v5 + 1) fun u6_115 =>
      fMd_cut_117 k80 FU v1 v2 v3 v4 v5 u6_115 M))
def fMd_cut_80 (k55 : Int32 → Int32 → Int32 → Int32 → zM → Option (Int32 × zM)) : Nat → Int32 → Int32 → Int32 → Int32 → Int32 → zM → Option (Int32 × zM)
  | 0, _, _, _, _, _, _ => none
  | fuel + 1, v1, v2, v3, v4, v5, M =>
  if v3 ≤ 1 then
    (fMd_cut_98 k55 (fMd_cut_80 k55 fuel) v1 v2 v3 v4 v5 (v4 + 1) v5 M)
  else
    (fMd_cut_98 k55 (fMd_cut_80 k55 fuel) v1 v2 v3 v4 v5 (M 0 1) v5 M)
def fMd_cut_55 (k47 : Int32 → Int32 → Int32 → zM → Option (Int32 × zM)) : Nat → Int32 → Int32 → Int32 → Int32 → zM → Option (Int32 × zM)
  | 0, _, _, _, _, _ => none
  | fuel + 1, v1, v2, v3, v4, M =>
  if (M 0 1) ≤ v4 then
    (k47 v1 v2 (v3 + 1) M)
  else
    (if v3 ≤ 1 then
      (fMd_cut_80 (fMd_cut_55 k47 fuel) FU v1 v2 v3 v4 v4 M)
    else
      (lt (v4 + 1) fun u5_78 =>
      fMd_cut_80 (fMd_cut_55 k47 fuel) FU v1 v2 v3 v4 u5_78 M))
def fMd_cut_47 : Nat → Int32 → Int32 → Int32 → zM → Option (Int32 × zM)
  | 0, _, _, _, _ => none
  | fuel + 1, v1, v2, v3, M =>
  if (4 : Int32) ≤ v3 then
    (some ((-1), M))
  else
    (fMd_cut_55 (fMd_cut_47 fuel) FU v1 v2 v3 0 M)
def fMd_cut (v1 : Int32) (v2 : Int32) (M : zM) : Option (Int32 × zM) :=
  cl (fMd_noPost v1 M) fun r2 M1 =>
  if ¬ r2 = 0 then
    (some ((-1001), M1))
  else
    (cl (fMd_noPost v2 M1) fun r4 M3 =>
    if r4 = 0 then
      (if ¬ v1 = v2 then
        (cl (fMd_findTree  M3) fun _ M5 =>
        cl (fMd_isParted v1 v2 0 M5) fun r7 M6 =>
        if r7 = 0 then
          (fMd_cut_47 FU v1 v2 1 M6)
        else
          (some (0, M6)))
      else
        (some ((-1003), M3)))
    else
      (some ((-1001), M3)))
def fMd_oneMore_161 (k61 : Int32 → Int32 → Int32 → Int32 → Int32 → Int32 → zM → Option (Int32 × zM)) (v1 : Int32) (v2 : Int32) (v3 : Int32) (v4 : Int32) (v5 : Int32) (v6 : Int32) (vs0 : Int32) (M : zM) : Option (Int32 × zM) :=
  if vs0 < 0 then
    (k61 v1 v2 v3 v4 v5 (v6 + 1) M)
  else
    (rd M 23 12 vs0 fun x1 =>
    if (0 : Int32) ≤ x1 then
      (k61 v1 v2 v3 v4 v5 (v6 + 1) M)
    else
      (wr M 23 12 vs0 v6 fun M2 =>
      wr M2 7 12 v3 vs0 fun M3 =>
      k61 v1 v2 (v3 + 1) v4 v5 (v6 + 1) M3))
def fMd_oneMore_128 (k61 : Int32 → Int32 → Int32 → Int32 → Int32 → Int32 → zM → Option (Int32 × zM)) (v1 : Int32) (v2 : Int32) (v3 : Int32) (v4 : Int32) (v5 : Int32) (v6 : Int32) (v7 : Int32) (vs0 : Int32) (M : zM) : Option (Int32 × zM) :=
  if v7 = 0 then
    (if vs0 = 0 then
      (fMd_oneMore_161 k61 v1 v2 v3 v4 v5 v6 (-1) M)
    else
      (rd M 1 30 v6 fun x1 =>
      fMd_oneMore_161 k61 v1 v2 v3 v4 v5 v6 x1 M))
  else
    (rd M 2 30 v6 fun x2 =>
    fMd_oneMore_161 k61 v1 v2 v3 v4 v5 v6 x2 M)
def fMd_oneMore_127 (k61 : Int32 → Int32 → Int32 → Int32 → Int32 → Int32 → zM → Option (Int32 × zM)) (v1 : Int32) (v2 : Int32) (v3 : Int32) (v4 : Int32) (v5 : Int32) (v6 : Int32) (v7 : Int32) (M : zM) : Option (Int32 × zM) :=
  fMd_oneMore_128 k61 v1 v2 v3 v4 v5 v6 v7 0 M
def fMd_oneMore_98 (k61 : Int32 → Int32 → Int32 → Int32 → Int32 → Int32 → zM → Option (Int32 × zM)) (v1 : Int32) (v2 : Int32) (v3 : Int32) (v4 : Int32) (v5 : Int32) (v6 : Int32) (vs0 : Int32) (M : zM) : Option (Int32 × zM) :=
  rd M 2 30 v6 fun x1 =>
  if ¬ x1 = v5 then
    (fMd_oneMore_127 k61 v1 v2 v3 v4 v5 v6 vs0 M)
  else
    (rd M 22 30 v6 fun x2 =>
    if x2 = 2 then
      (fMd_oneMore_127 k61 v1 v2 v3 v4 v5 v6 vs0 M)
    else
      (fMd_oneMore_128 k61 v1 v2 v3 v4 v5 v6 vs0 1 M))
def fMd_oneMore_97 (k61 : Int32 → Int32 → Int32 → Int32 → Int32 → Int32 → zM → Option (Int32 × zM)) (v1 : Int32) (v2 : Int32) (v3 : Int32) (v4 : Int32) (v5 : Int32) (v6 : Int32) (M : zM) : Option (Int32 × zM) :=
  fMd_oneMore_98 k61 v1 v2 v3 v4 v5 v6 0 M
def fMd_oneMore_61 (k43 : Int32 → Int32 → Int32 → Int32 → zM → Option (Int32 × zM)) : Nat → Int32 → Int32 → Int32 → Int32 → Int32 → Int32 → zM → Option (Int32 × zM)
  | 0, _, _, _, _, _, _, _ => none
  | fuel + 1, v1, v2, v3, v4, v5, v6, M =>
  if (M 0 1) ≤ v6 then
    (k43 v1 v2 v3 (v4 + 1) M)
  else
    (rd M 1 30 v6 fun x1 =>
    if ¬ x1 = v5 then
      (fMd_oneMore_97 (fMd_oneMore_61 k43 fuel) v1 v2 v3 v4 v5 v6 M)
    else
      (rd M 22 30 v6 fun x2 =>
      if x2 = 1 then
        (fMd_oneMore_97 (fMd_oneMore_61 k43 fuel) v1 v2 v3 v4 v5 v6 M)
      else
        (fMd_oneMore_98 (fMd_oneMore_61 k43 fuel) v1 v2 v3 v4 v5 v6 1 M)))
def fMd_oneMore_288 (k224 : Int32 → Int32 → zM → Option (Int32 × zM)) (v1 : Int32) (v5 : Int32) (v6 : Int32) (vs0 : Int32) (vs1 : Int32) (M : zM) : Option (Int32 × zM) :=
  wr M 22 30 vs1 vs0 fun M1 =>
  if v6 = 0 then
    (rd M1 2 30 v5 fun x2 =>
    k224 v1 x2 M1)
  else
    (rd M1 1 30 v5 fun x3 =>
    k224 v1 x3 M1)
def fMd_oneMore_256 (k224 : Int32 → Int32 → zM → Option (Int32 × zM)) (v1 : Int32) (v5 : Int32) (vs0 : Int32) (M : zM) : Option (Int32 × zM) :=
  rd M 22 30 v5 fun x1 =>
  if x1 = 0 then
    (if vs0 = 0 then
      (fMd_oneMore_288 k224 v1 v5 vs0 2 v5 M)
    else
      (fMd_oneMore_288 k224 v1 v5 vs0 1 v5 M))
  else
    (fMd_oneMore_288 k224 v1 v5 vs0 0 v5 M)
def fMd_oneMore_224 : Nat → Int32 → Int32 → zM → Option (Int32 × zM)
  | 0, _, _, _ => none
  | fuel + 1, v1, v4, M =>
  if v4 = v1 then
    (zbl 1 (some (1, M)))
  else
    (rd M 23 12 v4 fun x1 =>
    rd M 2 30 x1 fun x2 =>
    if ¬ x2 = v4 then
      (fMd_oneMore_256 (fMd_oneMore_224 fuel) v1 x1 0 M)
    else
      (fMd_oneMore_256 (fMd_oneMore_224 fuel) v1 x1 1 M))
def fMd_oneMore_43 : Nat → Int32 → Int32 → Int32 → Int32 → zM → Option (Int32 × zM)
  | 0, _, _, _, _, _ => none
  | fuel + 1, v1, v2, v3, v4, M =>
  if v3 ≤ v4 then
    (rd M 23 12 v2 fun x1 =>
    if (0 : Int32) ≤ x1 then
      (fMd_oneMore_224 FU v1 v2 M)
    else
      (zbl 0 (some (0, M))))
  else
    (rd M 7 12 v4 fun x2 =>
    fMd_oneMore_61 (fMd_oneMore_43 fuel) FU v1 v2 v3 v4 x2 0 M)
def fMd_oneMore_2 : Nat → Int32 → Int32 → Int32 → zM → Option (Int32 × zM)
  | 0, _, _, _, _ => none
  | fuel + 1, v1, v2, v3, M =>
  if (M 0 0) ≤ v3 then
    (wr M 7 12 0 v1 fun M1 =>
    wr M1 23 12 v1 30 fun M2 =>
    fMd_oneMore_43 FU v1 v2 1 0 M2)
  else
    (wr M 23 12 v3 (-1) fun M3 =>
    fMd_oneMore_2 fuel v1 v2 (v3 + 1) M3)
def fMd_oneMore (v1 : Int32) (v2 : Int32) (M : zM) : Option (Int32 × zM) :=
  fMd_oneMore_2 FU v1 v2 0 M
def fMd_ways_54 : Nat → Int32 → Int32 → Int32 → zM → Option (Int32 × zM)
  | 0, _, _, _, _ => none
  | fuel + 1, v1, v2, v3, M =>
  cl (fMd_oneMore v1 v2 M) fun r2 M1 =>
  if r2 = 0 then
    (some (v3, M1))
  else
    (fMd_ways_54 fuel v1 v2 (v3 + 1) M1)
def fMd_ways_31 : Nat → Int32 → Int32 → Int32 → zM → Option (Int32 × zM)
  | 0, _, _, _, _ => none
  | fuel + 1, v1, v2, v3, M =>
  if (M 0 1) ≤ v3 then
    (fMd_ways_54 FU v1 v2 0 M)
  else
    (wr M 22 30 v3 0 fun M1 =>
    fMd_ways_31 fuel v1 v2 (v3 + 1) M1)
def fMd_ways (v1 : Int32) (v2 : Int32) (M : zM) : Option (Int32 × zM) :=
  cl (fMd_noPost v1 M) fun r2 M1 =>
  if ¬ r2 = 0 then
    (some ((-1001), M1))
  else
    (cl (fMd_noPost v2 M1) fun r4 M3 =>
    if r4 = 0 then
      (if ¬ v1 = v2 then
        (fMd_ways_31 FU v1 v2 0 M3)
      else
        (some ((-1003), M3)))
    else
      (some ((-1001), M3)))
def fMd_pairs (v0 : Int32) (M : zM) : Option (Int32 × zM) :=
  zdiv (v0 * (v0 - 1)) 2 fun z1 =>
  some (z1, M)
def fMd_joined_21 (v0 : Int32) (v3 : Int32) (vs0 : Int32) (M : zM) : Option (Int32 × zM) :=
  cl (fMd_pairs vs0 M) fun r2 M1 =>
  some (((zshr v0 (r2 + v3)) &&& 1), M1)
def fMd_joined_10 (v0 : Int32) (v1 : Int32) (v2 : Int32) (vs0 : Int32) (M : zM) : Option (Int32 × zM) :=
  if v2 ≤ v1 then
    (fMd_joined_21 v0 vs0 v1 M)
  else
    (fMd_joined_21 v0 vs0 v2 M)
def fMd_joined (v0 : Int32) (v1 : Int32) (v2 : Int32) (M : zM) : Option (Int32 × zM) :=
  if v2 ≤ v1 then
    (fMd_joined_10 v0 v1 v2 v2 M)
  else
    (fMd_joined_10 v0 v1 v2 v1 M)
def fMd_isPick_36 (k10 : Int32 → Int32 → Int32 → Int32 → Int32 → Int32 → Int32 → zM → Option (Int32 × zM)) : Nat → Int32 → Int32 → Int32 → Int32 → Int32 → Int32 → Int32 → Int32 → zM → Option (Int32 × zM)
  | 0, _, _, _, _, _, _, _, _, _ => none
  | fuel + 1, v1, v2, v3, v4, v6, v7, v8, v9, M =>
  if v8 ≤ v9 then
    (k10 v1 v2 v3 v4 v6 v7 (v8 + 1) M)
  else
    (if v7 = 0 then
      (k10 v1 v2 v3 v4 v6 v7 (v8 + 1) M)
    else
      (rd M 24 5 v9 fun x1 =>
      rd M 24 5 v8 fun x2 =>
      if x1 = x2 then
        (fMd_isPick_36 k10 fuel v1 v2 v3 v4 v6 0 v8 (v9 + 1) M)
      else
        (rd M 24 5 v9 fun x3 =>
        rd M 24 5 v8 fun x4 =>
        cl (fMd_joined v2 x3 x4 M) fun r6 M5 =>
        cl (fMd_joined v4 v9 v8 M5) fun r8 M7 =>
        if ¬ r6 = r8 then
          (fMd_isPick_36 k10 fuel v1 v2 v3 v4 v6 0 v8 (v9 + 1) M7)
        else
          (fMd_isPick_36 k10 fuel v1 v2 v3 v4 v6 1 v8 (v9 + 1) M7))))
def fMd_isPick_10 : Nat → Int32 → Int32 → Int32 → Int32 → Int32 → Int32 → Int32 → zM → Option (Int32 × zM)
  | 0, _, _, _, _, _, _, _, _ => none
  | fuel + 1, v1, v2, v3, v4, v6, v7, v8, M =>
  if v3 ≤ v8 then
    (zbl v7 (some (v7, M)))
  else
    (zmod v6 v1 fun z1 =>
    wr M 24 5 v8 z1 fun M2 =>
    zdiv v6 v1 fun z3 =>
    fMd_isPick_36 (fMd_isPick_10 fuel) FU v1 v2 v3 v4 z3 v7 v8 0 M2)
def fMd_isPick (v1 : Int32) (v2 : Int32) (v3 : Int32) (v4 : Int32) (v5 : Int32) (M : zM) : Option (Int32 × zM) :=
  fMd_isPick_10 FU v1 v2 v3 v4 v5 1 0 M
def fMd_holdsOne_30 : Nat → Int32 → Int32 → Int32 → Int32 → Int32 → Int32 → Int32 → zM → Option (Int32 × zM)
  | 0, _, _, _, _, _, _, _, _ => none
  | fuel + 1, v1, v2, v3, v4, v5, v6, v7, M =>
  if v5 ≤ v7 then
    (zbl v6 (some (v6, M)))
  else
    (if ¬ v6 = 0 then
      (zbl v6 (some (v6, M)))
    else
      (cl (fMd_isPick v1 v2 v3 v4 v7 M) fun r2 M1 =>
      fMd_holdsOne_30 fuel v1 v2 v3 v4 v5 r2 (v7 + 1) M1))
def fMd_holdsOne_6 : Nat → Int32 → Int32 → Int32 → Int32 → Int32 → Int32 → zM → Option (Int32 × zM)
  | 0, _, _, _, _, _, _, _ => none
  | fuel + 1, v1, v2, v3, v4, v5, v6, M =>
  if v3 ≤ v6 then
    (fMd_holdsOne_30 FU v1 v2 v3 v4 v5 0 0 M)
  else
    (lt (v5 * v1) fun u5_16 =>
    fMd_holdsOne_6 fuel v1 v2 v3 v4 u5_16 (v6 + 1) M)
def fMd_holdsOne (v1 : Int32) (v2 : Int32) (v3 : Int32) (v4 : Int32) (M : zM) : Option (Int32 × zM) :=
  fMd_holdsOne_6 FU v1 v2 v3 v4 1 0 M
def fMd_holds (v1 : Int32) (v2 : Int32) (v3 : Int32) (v4 : Int32) (M : zM) : Option (Int32 × zM) :=
  cl (fMd_in v1.toInt64 1 5 M) fun r2 M1 =>
  if r2 = 0 then
    (some ((-1002), M1))
  else
    (cl (fMd_in v3.toInt64 1 5 M1) fun r4 M3 =>
    if r4 = 0 then
      (some ((-1002), M3))
    else
      (cl (fMd_pairs v1 M3) fun r6 M5 =>
      cl (fMd_in v2.toInt64 0 (((zshl 1 r6) - 1).toInt64) M5) fun r8 M7 =>
      if r8 = 0 then
        (some ((-1002), M7))
      else
        (cl (fMd_pairs v3 M7) fun r10 M9 =>
        cl (fMd_in v4.toInt64 0 (((zshl 1 r10) - 1).toInt64) M9) fun r12 M11 =>
        if ¬ r12 = 0 then
          (cl (fMd_holdsOne v1 v2 v3 v4 M11) fun r14 M13 =>
          cl (fMd_bit r14 M13) fun r16 M15 =>
          some (r16, M15))
        else
          (some ((-1002), M11)))))
def fMd_isUniversal_6 : Nat → Int32 → Int32 → Int32 → Int32 → Int32 → zM → Option (Int32 × zM)
  | 0, _, _, _, _, _, _ => none
  | fuel + 1, v1, v2, v3, v4, v5, M =>
  cl (fMd_pairs v1 M) fun r2 M1 =>
  if (zshl 1 r2) ≤ v5 then
    (zbl v4 (some (v4, M1)))
  else
    (if v4 = 0 then
      (zbl v4 (some (v4, M1)))
    else
      (cl (fMd_holdsOne v2 v3 v1 v5 M1) fun r4 M3 =>
      fMd_isUniversal_6 fuel v1 v2 v3 r4 (v5 + 1) M3))
def fMd_isUniversal (v1 : Int32) (v2 : Int32) (v3 : Int32) (M : zM) : Option (Int32 × zM) :=
  fMd_isUniversal_6 FU v1 v2 v3 1 0 M
def fMd_universal_47 : Nat → Int32 → Int32 → Int32 → Int32 → Int32 → Int32 → zM → Option (Int32 × zM)
  | 0, _, _, _, _, _, _, _ => none
  | fuel + 1, v1, v2, v3, v4, v5, v6, M =>
  cl (fMd_pairs v2 M) fun r2 M1 =>
  if (zshl 1 r2) ≤ v6 then
    (if ¬ v3 = 0 then
      (some (v5, M1))
    else
      (some (v4, M1)))
  else
    (cl (fMd_isUniversal v1 v2 v6 M1) fun r4 M3 =>
    if r4 = 0 then
      (fMd_universal_47 fuel v1 v2 v3 v4 v5 (v6 + 1) M3)
    else
      (if (0 : Int32) ≤ v5 then
        (fMd_universal_47 fuel v1 v2 v3 (v4 + 1) v5 (v6 + 1) M3)
      else
        (fMd_universal_47 fuel v1 v2 v3 (v4 + 1) v6 (v6 + 1) M3)))
def fMd_universal (v1 : Int32) (v2 : Int32) (v3 : Int32) (M : zM) : Option (Int32 × zM) :=
  cl (fMd_in v1.toInt64 1 3 M) fun r2 M1 =>
  if r2 = 0 then
    (some ((-1002), M1))
  else
    (cl (fMd_in v2.toInt64 1 5 M1) fun r4 M3 =>
    if r4 = 0 then
      (some ((-1002), M3))
    else
      (cl (fMd_in v3.toInt64 0 1 M3) fun r6 M5 =>
      if ¬ r6 = 0 then
        (fMd_universal_47 FU v1 v2 v3 0 (-1) 0 M5)
      else
        (some ((-1002), M5))))
def fMd_small_46 (k26 : Int32 → Int32 → Int32 → zM → Option (Int32 × zM)) (v2 : Int32) (v3 : Int32) (vs0 : Int32) (vs1 : Int32) (M : zM) : Option (Int32 × zM) :=
  cl (fMd_bit vs0 M) fun r2 M1 =>
  cl (fMd_pairs v2 M1) fun r4 M3 =>
  lt (vs1 ||| (zshl r2 (r4 + v3))) fun u1_57 =>
  k26 u1_57 v2 (v3 + 1) M3
def fMd_small_26 (k16 : Int32 → Int32 → zM → Option (Int32 × zM)) : Nat → Int32 → Int32 → Int32 → zM → Option (Int32 × zM)
  | 0, _, _, _, _ => none
  | fuel + 1, v1, v2, v3, M =>
  if v2 ≤ v3 then
    (k16 v1 (v2 + 1) M)
  else
    (cl (fMd_lineOf v3 v2 M) fun r2 M1 =>
    if r2 < 0 then
      (fMd_small_46 (fMd_small_26 k16 fuel) v2 v3 0 v1 M1)
    else
      (fMd_small_46 (fMd_small_26 k16 fuel) v2 v3 1 v1 M1))
def fMd_small_16 : Nat → Int32 → Int32 → zM → Option (Int32 × zM)
  | 0, _, _, _ => none
  | fuel + 1, v1, v2, M =>
  if (M 0 0) ≤ v2 then
    (some (v1, M))
  else
    (fMd_small_26 (fMd_small_16 fuel) FU v1 v2 0 M)
def fMd_small  (M : zM) : Option (Int32 × zM) :=
  if (M 0 0) ≤ 5 then
    (fMd_small_16 FU 0 0 M)
  else
    (some ((-1003), M))
def fMd_feed_37 : Nat → Int64 → Int32 → zM → Option (Int32 × zM)
  | 0, _, _, _ => none
  | fuel + 1, j2, v4, M =>
  if v4 < 0 then
    (some ((M 0 29), M))
  else
    (wr M 25 200 (M 0 29) (((zlshr j2 (8 * v4)) &&& 255).toInt32) fun M1 =>
    wf M1 0 29 ((M1 0 29) + 1) fun M2 =>
    fMd_feed_37 fuel j2 (v4 + (-1)) M2)
def fMd_feed (v1 : Int32) (j2 : Int64) (M : zM) : Option (Int32 × zM) :=
  cl (fMd_in v1.toInt64 1 8 M) fun r2 M1 =>
  if ¬ r2 = 0 then
    (if ((M1 0 29) + v1) ≤ 200 then
      (lt (v1 - 1) fun u4_35 =>
      fMd_feed_37 FU j2 u4_35 M1)
    else
      (some ((-1004), M1)))
  else
    (some ((-1002), M1))
def fMd_here_38  (M : zM) : Option (Int32 × zM) :=
  if (M 0 29) ≤ (M 0 30) then
    (some ((-1), M))
  else
    (rd M 25 200 (M 0 30) fun x1 =>
    some (x1, M))
def fMd_here_0 : Nat → zM → Option (Int32 × zM)
  | 0, _ => none
  | fuel + 1, M =>
  if (M 0 29) ≤ (M 0 30) then
    (fMd_here_38  M)
  else
    (rd M 25 200 (M 0 30) fun x1 =>
    if ¬ x1 = 32 then
      (fMd_here_38  M)
    else
      (wf M 0 30 ((M 0 30) + 1) fun M2 =>
      fMd_here_0 fuel  M2))
def fMd_here  (M : zM) : Option (Int32 × zM) := fMd_here_0 FU  M
def fMd_want_21  (M : zM) : Option (Int32 × zM) :=
  if ¬ (M 0 31) = 0 then
    (zbl 0 (some (0, M)))
  else
    (zbl 1 (some (1, M)))
def fMd_want (v1 : Int32) (v2 : Int32) (v3 : Int32) (M : zM) : Option (Int32 × zM) :=
  if ¬ v1 = 0 then
    (fMd_want_21  M)
  else
    (if ¬ (M 0 31) = 0 then
      (fMd_want_21  M)
    else
      (wf M 0 31 v2 fun M1 =>
      wf M1 0 32 v3 fun M2 =>
      fMd_want_21  M2))
def fMd_isWord_95 (k18 : Int32 → Int32 → Int32 → Int32 → Int32 → Int32 → Int32 → Int32 → Int32 → zM → Option (Int32 × zM)) (v1 : Int32) (v2 : Int32) (v3 : Int32) (v4 : Int32) (v5 : Int32) (v6 : Int32) (v7 : Int32) (v9 : Int32) (vs0 : Int32) (vs1 : Int32) (M : zM) : Option (Int32 × zM) :=
  if ¬ vs1 = vs0 then
    (k18 v1 v2 v3 v4 v5 v6 v7 0 (v9 + 1) M)
  else
    (k18 v1 v2 v3 v4 v5 v6 v7 1 (v9 + 1) M)
def fMd_isWord_18 : Nat → Int32 → Int32 → Int32 → Int32 → Int32 → Int32 → Int32 → Int32 → Int32 → zM → Option (Int32 × zM)
  | 0, _, _, _, _, _, _, _, _, _, _ => none
  | fuel + 1, v1, v2, v3, v4, v5, v6, v7, v8, v9, M =>
  if v1 ≤ v9 then
    (zbl v8 (some (v8, M)))
  else
    (if v8 = 0 then
      (zbl v8 (some (v8, M)))
    else
      (rd M 25 200 ((M 0 33) + v9) fun x1 =>
      if ¬ v9 = 0 then
        (if ¬ v9 = 1 then
          (if ¬ v9 = 2 then
            (if ¬ v9 = 3 then
              (if ¬ v9 = 4 then
                (fMd_isWord_95 (fMd_isWord_18 fuel) v1 v2 v3 v4 v5 v6 v7 v9 v7 x1 M)
              else
                (fMd_isWord_95 (fMd_isWord_18 fuel) v1 v2 v3 v4 v5 v6 v7 v9 v6 x1 M))
            else
              (fMd_isWord_95 (fMd_isWord_18 fuel) v1 v2 v3 v4 v5 v6 v7 v9 v5 x1 M))
          else
            (fMd_isWord_95 (fMd_isWord_18 fuel) v1 v2 v3 v4 v5 v6 v7 v9 v4 x1 M))
        else
          (fMd_isWord_95 (fMd_isWord_18 fuel) v1 v2 v3 v4 v5 v6 v7 v9 v3 x1 M))
      else
        (fMd_isWord_95 (fMd_isWord_18 fuel) v1 v2 v3 v4 v5 v6 v7 v9 v2 x1 M)))
def fMd_isWord (v1 : Int32) (v2 : Int32) (v3 : Int32) (v4 : Int32) (v5 : Int32) (v6 : Int32) (v7 : Int32) (M : zM) : Option (Int32 × zM) :=
  if ¬ (M 0 34) = v1 then
    (fMd_isWord_18 FU v1 v2 v3 v4 v5 v6 v7 0 0 M)
  else
    (fMd_isWord_18 FU v1 v2 v3 v4 v5 v6 v7 1 0 M)
def fMd_takeQuestion_59  (M : zM) : Option (Int32 × zM) :=
  wf M 0 34 ((M 0 30) - (M 0 33)) fun M1 =>
  cl (fMd_isWord 5 97 98 111 118 101 0 M1) fun r3 M2 =>
  if r3 = 0 then
    (cl (fMd_isWord 6 106 111 105 110 101 100 M2) fun r5 M4 =>
    if r5 = 0 then
      (cl (fMd_isWord 3 102 97 114 0 0 0 M4) fun r7 M6 =>
      if r7 = 0 then
        (cl (fMd_isWord 6 112 97 114 116 101 100 M6) fun r9 M8 =>
        if r9 = 0 then
          (cl (fMd_isWord 4 110 101 120 116 0 0 M8) fun r11 M10 =>
          if r11 = 0 then
            (some ((-1), M10))
          else
            (some (4, M10)))
        else
          (some (3, M8)))
      else
        (some (2, M6)))
    else
      (some (1, M4)))
  else
    (some (0, M2))
def fMd_takeQuestion_13 : Nat → zM → Option (Int32 × zM)
  | 0, _ => none
  | fuel + 1, M =>
  if (M 0 29) ≤ (M 0 30) then
    (fMd_takeQuestion_59  M)
  else
    (rd M 25 200 (M 0 30) fun x1 =>
    cl (fMd_in x1.toInt64 97 122 M) fun r3 M2 =>
    if r3 = 0 then
      (fMd_takeQuestion_59  M2)
    else
      (wf M2 0 30 ((M2 0 30) + 1) fun M4 =>
      fMd_takeQuestion_13 fuel  M4))
def fMd_takeQuestion  (M : zM) : Option (Int32 × zM) :=
  cl (fMd_here  M) fun r2 M1 =>
  wf M1 0 33 (M1 0 30) fun M3 =>
  fMd_takeQuestion_13 FU  M3
def fMd_takeNumber_177 (v1 : Int32) (v3 : Int32) (v4 : Int32) (vs0 : Int32) (M : zM) : Option (Unit × zM) :=
  cl (fMd_want vs0 3 v3 M) fun r2 M1 =>
  if r2 = 0 then
    (wr M1 28 8 v1 v4 fun M3 =>
    some ((), M3))
  else
    (wr M1 28 8 v1 v4 fun M4 =>
    some ((), M4))
def fMd_takeNumber_132 (v1 : Int32) (v3 : Int32) (v4 : Int32) (vs0 : Int32) (M : zM) : Option (Unit × zM) :=
  cl (fMd_want vs0 2 v3 M) fun r2 M1 =>
  if r2 = 0 then
    (wr M1 28 8 v1 v4 fun M3 =>
    some ((), M3))
  else
    (if (2 : Int32) ≤ v1 then
      (cl (fMd_noLine v4 M1) fun r5 M4 =>
      if ¬ r5 = 0 then
        (fMd_takeNumber_177 v1 v3 v4 0 M4)
      else
        (fMd_takeNumber_177 v1 v3 v4 1 M4))
    else
      (cl (fMd_noPost v4 M1) fun r7 M6 =>
      if ¬ r7 = 0 then
        (fMd_takeNumber_177 v1 v3 v4 0 M6)
      else
        (fMd_takeNumber_177 v1 v3 v4 1 M6)))
def fMd_takeNumber_116 (v1 : Int32) (v3 : Int32) (v4 : Int32) (M : zM) : Option (Unit × zM) :=
  if (3 : Int32) ≤ ((M 0 30) - v3) then
    (fMd_takeNumber_132 v1 v3 v4 0 M)
  else
    (fMd_takeNumber_132 v1 v3 v4 1 M)
def fMd_takeNumber_37 : Nat → Int32 → Int32 → Int32 → zM → Option (Unit × zM)
  | 0, _, _, _, _ => none
  | fuel + 1, v1, v3, v4, M =>
  if (M 0 29) ≤ (M 0 30) then
    (fMd_takeNumber_116 v1 v3 v4 M)
  else
    (rd M 25 200 (M 0 30) fun x1 =>
    cl (fMd_in x1.toInt64 48 57 M) fun r3 M2 =>
    if r3 = 0 then
      (fMd_takeNumber_116 v1 v3 v4 M2)
    else
      (if v4 ≤ 999 then
        (rd M2 25 200 (M2 0 30) fun x4 =>
        lt (((10 * v4) + x4) - 48) fun u4_101 =>
        wf M2 0 30 ((M2 0 30) + 1) fun M5 =>
        fMd_takeNumber_37 fuel v1 v3 u4_101 M5)
      else
        (wf M2 0 30 ((M2 0 30) + 1) fun M6 =>
        fMd_takeNumber_37 fuel v1 v3 v4 M6)))
def fMd_takeNumber (v1 : Int32) (M : zM) : Option (Unit × zM) :=
  cl (fMd_here  M) fun r2 M1 =>
  cl (fMd_in r2.toInt64 48 57 M1) fun r4 M3 =>
  cl (fMd_want r4 1 (M3 0 30) M3) fun r6 M5 =>
  if ¬ r6 = 0 then
    (lt (M5 0 30) fun u3_33 =>
    fMd_takeNumber_37 FU v1 u3_33 0 M5)
  else
    (some ((), M5))
def fMd_answerOf_50 : Nat → Int32 → Int32 → Int32 → zM → Option (Int32 × zM)
  | 0, _, _, _, _ => none
  | fuel + 1, v2, v3, v4, M =>
  if v2 ≤ v4 then
    (rd M 28 8 0 fun x1 =>
    rd M 28 8 1 fun x2 =>
    cl (fMd_parted x1 x2 v3 M) fun r4 M3 =>
    some (r4, M3))
  else
    (rd M 28 8 v4 fun x5 =>
    lt (v3 ||| (zshl 1 x5)) fun u3_67 =>
    fMd_answerOf_50 fuel v2 u3_67 (v4 + 1) M)
def fMd_answerOf (v1 : Int32) (v2 : Int32) (M : zM) : Option (Int32 × zM) :=
  if (3 : Int32) ≤ v1 then
    (if ¬ v1 = 4 then
      (fMd_answerOf_50 FU v2 0 2 M)
    else
      (rd M 28 8 0 fun x1 =>
      rd M 28 8 1 fun x2 =>
      cl (fMd_next x1 x2 M) fun r4 M3 =>
      some (r4, M3)))
  else
    (rd M 28 8 0 fun x5 =>
    rd M 28 8 1 fun x6 =>
    cl (fMd_ask v1 x5 x6 M) fun r8 M7 =>
    some (r8, M7))
def fMd_readQuestion_144 (v1 : Int32) (v2 : Int32) (vs0 : Int32) (M : zM) : Option (Unit × zM) :=
  cl (fMd_want vs0 1 (M 0 30) M) fun r2 M1 =>
  if ¬ r2 = 0 then
    (wf M1 0 30 ((M1 0 30) + 1) fun M3 =>
    cl (fMd_answerOf v1 v2 M3) fun r5 M4 =>
    wr M4 27 12 (M3 0 38) r5 fun M6 =>
    wf M6 0 38 ((M6 0 38) + 1) fun M7 =>
    some ((), M7))
  else
    (some ((), M1))
def fMd_readQuestion_118 (v1 : Int32) (v2 : Int32) (M : zM) : Option (Unit × zM) :=
  cl (fMd_here  M) fun r2 M1 =>
  if (0 : Int32) < (M1 0 31) then
    (some ((), M1))
  else
    (if ¬ r2 = 59 then
      (fMd_readQuestion_144 v1 v2 0 M1)
    else
      (fMd_readQuestion_144 v1 v2 1 M1))
def fMd_readQuestion_57 : Nat → Int32 → Int32 → Int32 → zM → Option (Unit × zM)
  | 0, _, _, _, _ => none
  | fuel + 1, v1, v2, v3, M =>
  if v3 = 0 then
    (fMd_readQuestion_118 v1 v2 M)
  else
    (if ¬ (M 0 31) = 0 then
      (fMd_readQuestion_118 v1 v2 M)
    else
      (cl (fMd_takeNumber v2 M) fun _ M1 =>
      if (v2 + 1) < 2 then
        (fMd_readQuestion_57 fuel v1 (v2 + 1) 1 M1)
      else
        (if ¬ v1 = 3 then
          (fMd_readQuestion_57 fuel v1 (v2 + 1) 0 M1)
        else
          (if (8 : Int32) ≤ (v2 + 1) then
            (fMd_readQuestion_57 fuel v1 (v2 + 1) 0 M1)
          else
            (cl (fMd_here  M1) fun r3 M2 =>
            cl (fMd_in r3.toInt64 48 57 M2) fun r5 M4 =>
            if r5 = 0 then
              (fMd_readQuestion_57 fuel v1 (v2 + 1) 0 M4)
            else
              (fMd_readQuestion_57 fuel v1 (v2 + 1) 1 M4))))))
def fMd_readQuestion_41 (v1 : Int32) (vs0 : Int32) (M : zM) : Option (Unit × zM) :=
  cl (fMd_want vs0 4 (M 0 33) M) fun r2 M1 =>
  if ¬ r2 = 0 then
    (fMd_readQuestion_57 FU v1 0 1 M1)
  else
    (some ((), M1))
def fMd_readQuestion_15 (v1 : Int32) (vs0 : Int32) (M : zM) : Option (Unit × zM) :=
  cl (fMd_want vs0 1 (M 0 33) M) fun r2 M1 =>
  if r2 = 0 then
    (some ((), M1))
  else
    (if (12 : Int32) ≤ (M1 0 38) then
      (fMd_readQuestion_41 v1 0 M1)
    else
      (fMd_readQuestion_41 v1 1 M1))
def fMd_readQuestion  (M : zM) : Option (Unit × zM) :=
  cl (fMd_takeQuestion  M) fun r2 M1 =>
  if r2 < 0 then
    (fMd_readQuestion_15 r2 0 M1)
  else
    (fMd_readQuestion_15 r2 1 M1)
def fMd_read_63 : Nat → Int32 → zM → Option (Int32 × zM)
  | 0, _, _ => none
  | fuel + 1, v1, M =>
  if (M 0 38) ≤ v1 then
    (wf M 0 35 (M 0 38) fun M1 =>
    some ((M1 0 35), M1))
  else
    (rd M 27 12 v1 fun x2 =>
    wr M 26 12 v1 x2 fun M3 =>
    fMd_read_63 fuel (v1 + 1) M3)
def fMd_read_41  (M : zM) : Option (Int32 × zM) :=
  wf M 0 29 0 fun M1 =>
  if (M1 0 31) ≤ 0 then
    (fMd_read_63 FU 0 M1)
  else
    (some (((-10) - (M1 0 31)), M1))
def fMd_read_20 : Nat → zM → Option (Int32 × zM)
  | 0, _ => none
  | fuel + 1, M =>
  if ¬ (M 0 31) = 0 then
    (fMd_read_41  M)
  else
    (cl (fMd_here  M) fun r2 M1 =>
    if r2 < 0 then
      (fMd_read_41  M1)
    else
      (cl (fMd_readQuestion  M1) fun _ M3 =>
      fMd_read_20 fuel  M3))
def fMd_read  (M : zM) : Option (Int32 × zM) :=
  wf M 0 30 0 fun M1 =>
  wf M1 0 31 0 fun M2 =>
  wf M2 0 32 (-1) fun M3 =>
  wf M3 0 38 0 fun M4 =>
  fMd_read_20 FU  M4
def fMd_fault  (M : zM) : Option (Int32 × zM) :=
  some ((M 0 32), M)
def fMd_said (v1 : Int32) (M : zM) : Option (Int32 × zM) :=
  cl (fMd_in v1.toInt64 0 (((M 0 35) - 1).toInt64) M) fun r2 M1 =>
  if r2 = 0 then
    (some ((-1001), M1))
  else
    (rd M1 26 12 v1 fun x3 =>
    some (x3, M1))
