def fJ3_checkIndex (v0 v1 : Int32) (M : zM) : Option (Int32 × zM) := if v0 < 0 then none else if v0 < v1 then some (v0, M) else none
def fJ0_checkIndex (v0 v1 : Int32) (M : zM) : Option (Unit × zM) := cl (fJ3_checkIndex v0 v1 M) fun _ M1 => some ((), M1)
def fTree_clear  (M : zM) : Option (Unit × zM) :=
  wf M 5 1 0 fun M1 =>
  wf M1 5 2 0 fun M2 =>
  wf M2 5 10 0 fun M3 =>
  wf M3 5 11 0 fun M4 =>
  some ((), M4)
def fTree_place (v1 : Int32) (M : zM) : Option (Unit × zM) :=
  wf M 5 11 ((M 5 11) ||| (zshl 1 v1)) fun M1 =>
  wr M1 12 12 (M1 5 10) v1 fun M2 =>
  wf M2 5 10 ((M2 5 10) + 1) fun M3 =>
  some ((), M3)
def fNet_joins (v1 : Int32) (v2 : Int32) (M : zM) : Option (Int32 × zM) :=
  rd M 4 12 v1 fun x1 =>
  if ¬ ((zshr x1 v2) &&& 1) = 1 then
    (zbl 0 (some (0, M)))
  else
    (zbl 1 (some (1, M)))
def fNet_lineBetween_30 (k2 : Int32 → Int32 → Int32 → zM → Option (Int32 × zM)) (v1 : Int32) (v2 : Int32) (v3 : Int32) (M : zM) : Option (Int32 × zM) :=
  rd M 2 30 v3 fun x1 =>
  if ¬ x1 = v2 then
    (k2 v1 v2 (v3 + 1) M)
  else
    (rd M 3 30 v3 fun x2 =>
    if ¬ x2 = v1 then
      (k2 v1 v2 (v3 + 1) M)
    else
      (some (v3, M)))
def fNet_lineBetween_2 : Nat → Int32 → Int32 → Int32 → zM → Option (Int32 × zM)
  | 0, _, _, _, _ => none
  | fuel + 1, v1, v2, v3, M =>
  if (M 1 1) ≤ v3 then
    (some ((-1), M))
  else
    (rd M 2 30 v3 fun x1 =>
    if ¬ x1 = v1 then
      (fNet_lineBetween_30 (fNet_lineBetween_2 fuel) v1 v2 v3 M)
    else
      (rd M 3 30 v3 fun x2 =>
      if x2 = v2 then
        (some (v3, M))
      else
        (fNet_lineBetween_30 (fNet_lineBetween_2 fuel) v1 v2 v3 M)))
def fNet_lineBetween (v1 : Int32) (v2 : Int32) (M : zM) : Option (Int32 × zM) :=
  fNet_lineBetween_2 FU v1 v2 0 M
def fTree_growFrom_73 (k43 : Int32 → Int32 → zM → Option (Unit × zM)) : Nat → Int32 → Int32 → Int32 → Int32 → zM → Option (Unit × zM)
  | 0, _, _, _, _, _ => none
  | fuel + 1, v1, v3, v4, v5, M =>
  if (M 1 0) ≤ v5 then
    (k43 v1 (v3 + 1) M)
  else
    (cl (fNet_joins v4 v5 M) fun r2 M1 =>
    if r2 = 0 then
      (fTree_growFrom_73 k43 fuel v1 v3 v4 (v5 + 1) M1)
    else
      (if ¬ ((zshr (M1 5 11) v5) &&& 1) = 0 then
        (fTree_growFrom_73 k43 fuel v1 v3 v4 (v5 + 1) M1)
      else
        (cl (fNet_lineBetween v4 v5 M1) fun r4 M3 =>
        lt (zshl 1 r4) fun u6_124 =>
        wf M3 5 2 ((M3 5 2) ||| u6_124) fun M5 =>
        wr M5 6 12 v5 v4 fun M6 =>
        wr M6 7 12 v5 v1 fun M7 =>
        rd M7 8 12 v4 fun x8 =>
        wr M7 8 12 v5 (x8 ||| u6_124) fun M9 =>
        cl (fTree_place v5 M9) fun _ M10 =>
        fTree_growFrom_73 k43 fuel v1 v3 v4 (v5 + 1) M10)))
def fTree_growFrom_43 : Nat → Int32 → Int32 → zM → Option (Unit × zM)
  | 0, _, _, _ => none
  | fuel + 1, v1, v3, M =>
  if (M 5 10) ≤ v3 then
    (some ((), M))
  else
    (if (M 1 0) ≤ v3 then
      (some ((), M))
    else
      (rd M 12 12 v3 fun x1 =>
      fTree_growFrom_73 (fTree_growFrom_43 fuel) FU v1 v3 x1 0 M))
def fTree_growFrom (v1 : Int32) (M : zM) : Option (Unit × zM) :=
  lt (M 5 10) fun u2_4 =>
  wf M 5 1 ((M 5 1) + 1) fun M1 =>
  wr M1 6 12 v1 (-1) fun M2 =>
  wr M2 7 12 v1 v1 fun M3 =>
  wr M3 8 12 v1 0 fun M4 =>
  cl (fTree_place v1 M4) fun _ M5 =>
  fTree_growFrom_43 FU v1 u2_4 M5
def fJ7_fill_5 : Nat → Nat → Nat → Int32 → Int32 → Int32 → zM → Option (Unit × zM)
  | 0, _, _, _, _, _, _ => none
  | fuel + 1, c0, n0, v1, v2, v3, M =>
  if v3 ≤ v2 then
    (some ((), M))
  else
    (wr M c0 n0 v2 v1 fun M1 =>
    fJ7_fill_5 fuel c0 n0 v1 (v2 + 1) v3 M1)
def fJ7_fill (c0 : Nat) (n0 : Nat) (v1 : Int32) (M : zM) : Option (Unit × zM) :=
  lt (nI n0) fun u3_4 =>
  fJ7_fill_5 FU c0 n0 v1 0 u3_4 M
def fTree_numberPosts_113 (k66 : Int32 → Int32 → zM → Option (Unit × zM)) (v1 : Int32) (v2 : Int32) (v3 : Int32) (v4 : Int32) (vs0 : Int32) (vs1 : Int32) (M : zM) : Option (Unit × zM) :=
  wr M 9 12 vs1 vs0 fun M1 =>
  rd M1 9 12 v3 fun x2 =>
  wr M1 10 12 v3 x2 fun M3 =>
  if ¬ v4 = (-1) then
    (rd M3 10 12 v4 fun x4 =>
    rd M3 13 12 v3 fun x5 =>
    wr M3 10 12 v4 (x4 + x5) fun M6 =>
    k66 v1 (v2 + 1) M6)
  else
    (rd M3 13 12 v3 fun x7 =>
    lt (v1 + x7) fun u1_140 =>
    k66 u1_140 (v2 + 1) M3)
def fTree_numberPosts_66 : Nat → Int32 → Int32 → zM → Option (Unit × zM)
  | 0, _, _, _ => none
  | fuel + 1, v1, v2, M =>
  if (M 5 10) ≤ v2 then
    (some ((), M))
  else
    (rd M 12 12 v2 fun x1 =>
    rd M 6 12 x1 fun x2 =>
    if ¬ x2 = (-1) then
      (rd M 10 12 x2 fun x3 =>
      fTree_numberPosts_113 (fTree_numberPosts_66 fuel) v1 v2 x1 x2 (x3 + 1) x1 M)
    else
      (fTree_numberPosts_113 (fTree_numberPosts_66 fuel) v1 v2 x1 x2 v1 x1 M))
def fTree_numberPosts_15 : Nat → Int32 → zM → Option (Unit × zM)
  | 0, _, _ => none
  | fuel + 1, v1, M =>
  if v1 < 0 then
    (fTree_numberPosts_66 FU 0 0 M)
  else
    (rd M 12 12 v1 fun x1 =>
    rd M 6 12 x1 fun x2 =>
    if x2 = (-1) then
      (fTree_numberPosts_15 fuel (v1 + (-1)) M)
    else
      (rd M 6 12 x1 fun x3 =>
      rd M 13 12 x3 fun x4 =>
      rd M 13 12 x1 fun x5 =>
      wr M 13 12 x3 (x4 + x5) fun M6 =>
      fTree_numberPosts_15 fuel (v1 + (-1)) M6))
def fTree_numberPosts  (M : zM) : Option (Unit × zM) :=
  cl (fJ7_fill 13 12 1 M) fun _ M1 =>
  lt ((M1 5 10) - 1) fun u1_14 =>
  fTree_numberPosts_15 FU u1_14 M1
def fTree_nameLines_68 (k10 : Int32 → zM → Option (Unit × zM)) : Nat → Int32 → Int32 → Int32 → zM → Option (Unit × zM)
  | 0, _, _, _, _ => none
  | fuel + 1, v1, v2, v3, M =>
  if (M 1 1) ≤ v3 then
    (k10 (v1 + 1) M)
  else
    (rd M 11 30 v3 fun x1 =>
    wr M 11 30 v3 (x1 ||| (zshl ((zshr v2 v3) &&& 1) v1)) fun M2 =>
    fTree_nameLines_68 k10 fuel v1 v2 (v3 + 1) M2)
def fTree_nameLines_10 : Nat → Int32 → zM → Option (Unit × zM)
  | 0, _, _ => none
  | fuel + 1, v1, M =>
  if (M 1 1) ≤ v1 then
    (some ((), M))
  else
    (if ¬ ((zshr (M 5 2) v1) &&& 1) = 0 then
      (fTree_nameLines_10 fuel (v1 + 1) M)
    else
      (rd M 2 30 v1 fun x1 =>
      rd M 8 12 x1 fun x2 =>
      rd M 3 30 v1 fun x3 =>
      rd M 8 12 x3 fun x4 =>
      lt ((x2 ^^^ x4) ||| (zshl 1 v1)) fun u2_65 =>
      fTree_nameLines_68 (fTree_nameLines_10 fuel) FU v1 u2_65 0 M))
def fTree_nameLines  (M : zM) : Option (Unit × zM) :=
  cl (fJ7_fill 11 30 0 M) fun _ M1 =>
  fTree_nameLines_10 FU 0 M1
def fTree_fresh_31 : Nat → Int32 → zM → Option (Nat × zM)
  | 0, _, _ => none
  | fuel + 1, v1, M =>
  if (M 1 0) ≤ v1 then
    (cl (fTree_numberPosts  M) fun _ M1 =>
    cl (fTree_nameLines  M1) fun _ M2 =>
    some (5, M2))
  else
    (if ¬ ((zshr (M 5 11) v1) &&& 1) = 0 then
      (fTree_fresh_31 fuel (v1 + 1) M)
    else
      (cl (fTree_growFrom v1 M) fun _ M3 =>
      fTree_fresh_31 fuel (v1 + 1) M3))
def fTree_fresh  (M : zM) : Option (Nat × zM) :=
  if (M 5 13) = (M 1 2) then
    (some (5, M))
  else
    (wf M 5 13 (M 1 2) fun M1 =>
    cl (fTree_clear  M1) fun _ M2 =>
    fTree_fresh_31 FU 0 M2)
def fJ6_bitCount (v0 : Int32) (M : zM) : Option (Int32 × zM) :=
  lt (v0 - ((zush v0 1) &&& 1431655765)) fun u0_9 =>
  lt ((u0_9 &&& 858993459) + ((zush u0_9 2) &&& 858993459)) fun u0_23 =>
  lt ((u0_23 + (zush u0_23 4)) &&& 252645135) fun u0_33 =>
  lt (u0_33 + (zush u0_33 8)) fun u0_40 =>
  lt (u0_40 + (zush u0_40 16)) fun u0_47 =>
  some ((u0_47 &&& 63), M)
def fCuts_namesGiveNothing_4 : Nat → Int32 → Int32 → Int32 → zM → Option (Int32 × zM)
  | 0, _, _, _, _ => none
  | fuel + 1, v1, v2, v3, M =>
  if (M 1 1) ≤ v3 then
    (if ¬ v2 = 0 then
      (zbl 0 (some (0, M)))
    else
      (zbl 1 (some (1, M))))
  else
    (if ¬ ((zshr v1 v3) &&& 1) = 1 then
      (fCuts_namesGiveNothing_4 fuel v1 v2 (v3 + 1) M)
    else
      (rd M 11 30 v3 fun x1 =>
      lt (v2 ^^^ x1) fun u2_35 =>
      fCuts_namesGiveNothing_4 fuel v1 u2_35 (v3 + 1) M))
def fCuts_namesGiveNothing (v1 : Int32) (M : zM) : Option (Int32 × zM) :=
  fCuts_namesGiveNothing_4 FU v1 0 0 M
def fCuts_parts_48 : Nat → Int32 → Int32 → Int32 → zM → Option (Int32 × zM)
  | 0, _, _, _, _ => none
  | fuel + 1, v3, v5, v6, M =>
  if v6 ≤ 0 then
    (zbl 0 (some (0, M)))
  else
    (cl (fJ6_bitCount (v6 &&& v5) M) fun r2 M1 =>
    zmod r2 2 fun z3 =>
    if ¬ z3 = 1 then
      (lt ((v6 - 1) &&& v3) fun u6_84 =>
      fCuts_parts_48 fuel v3 v5 u6_84 M1)
    else
      (cl (fCuts_namesGiveNothing v6 M1) fun r5 M4 =>
      if r5 = 0 then
        (lt ((v6 - 1) &&& v3) fun u6_84 =>
        fCuts_parts_48 fuel v3 v5 u6_84 M4)
      else
        (zbl 1 (some (1, M4)))))
def fCuts_parts (v1 : Int32) (v2 : Int32) (v3 : Int32) (M : zM) : Option (Int32 × zM) :=
  cl (fTree_fresh  M) fun r2 M1 =>
  if r2 = 5 then
    (rd M1 7 12 v1 fun x3 =>
  rd M1 7 12 v2 fun x4 =>
  if x3 = x4 then
    (rd M1 8 12 v1 fun x5 =>
    rd M1 8 12 v2 fun x6 =>
    lt (x5 ^^^ x6) fun u5_43 =>
    fCuts_parts_48 FU v3 u5_43 v3 M1)
  else
    (zbl 1 (some (1, M1))))
  else none
def fCuts_search_23 (slf : Int32 → Int32 → Int32 → Int32 → Int32 → zM → Option (Int32 × zM)) : Nat → Int32 → Int32 → Int32 → Int32 → Int32 → zM → Option (Int32 × zM)
  | 0, _, _, _, _, _, _ => none
  | fuel + 1, v2, v3, v4, v5, v6, M =>
  if (M 1 1) ≤ v6 then
    (some ((-1), M))
  else
    (rd M 11 30 v6 fun x1 =>
    cl (slf (v6 + 1) (v2 - 1) (v3 ^^^ x1) (v4 ^^^ ((zshr v5 v6) &&& 1)) v5 M) fun r3 M2 =>
    if r3 = (-1) then
      (fCuts_search_23 slf fuel v2 v3 v4 v5 (v6 + 1) M2)
    else
      (some ((r3 ||| (zshl 1 v6)), M2)))
def fCuts_search_b (slf : Int32 → Int32 → Int32 → Int32 → Int32 → zM → Option (Int32 × zM)) (v1 : Int32) (v2 : Int32) (v3 : Int32) (v4 : Int32) (v5 : Int32) (M : zM) : Option (Int32 × zM) :=
  if (0 : Int32) < v2 then
    (fCuts_search_23 slf FU v2 v3 v4 v5 v1 M)
  else
    (if ¬ v3 = 0 then
      (some ((-1), M))
    else
      (if ¬ v4 = 1 then
        (some ((-1), M))
      else
        (some (0, M))))
def fCuts_search : Nat → Int32 → Int32 → Int32 → Int32 → Int32 → zM → Option (Int32 × zM)
  | 0, _, _, _, _, _, _ => none
  | d + 1, v1, v2, v3, v4, v5, M => fCuts_search_b (fCuts_search d) v1 v2 v3 v4 v5 M
def fCuts_fewest_43 : Nat → Int32 → Int32 → zM → Option (Int32 × zM)
  | 0, _, _, _ => none
  | fuel + 1, v4, v5, M =>
  if (3 : Int32) < v5 then
    (some ((-1), M))
  else
    (cl (fCuts_search 8 0 v5 0 0 v4 M) fun r2 M1 =>
    if r2 = (-1) then
      (fCuts_fewest_43 fuel v4 (v5 + 1) M1)
    else
      (some (r2, M1)))
def fCuts_fewest (v1 : Int32) (v2 : Int32) (M : zM) : Option (Int32 × zM) :=
  cl (fTree_fresh  M) fun r2 M1 =>
  if r2 = 5 then
    (rd M1 7 12 v1 fun x3 =>
  rd M1 7 12 v2 fun x4 =>
  if x3 = x4 then
    (rd M1 8 12 v1 fun x5 =>
    rd M1 8 12 v2 fun x6 =>
    lt (x5 ^^^ x6) fun u4_38 =>
    fCuts_fewest_43 FU u4_38 1 M1)
  else
    (some (0, M1)))
  else none
def fCuts_reach_48 (k17 : Int32 → Int32 → Int32 → Int32 → zM → Option (Int32 × zM)) : Nat → Int32 → Int32 → Int32 → Int32 → Int32 → Int32 → zM → Option (Int32 × zM)
  | 0, _, _, _, _, _, _, _ => none
  | fuel + 1, v2, v3, v4, v5, v6, v7, M =>
  if (M 1 0) ≤ v7 then
    (k17 v2 v3 v4 (v5 + 1) M)
  else
    (rd M 50 12 v6 fun x1 =>
    if ¬ ((zshr x1 v7) &&& 1) = 1 then
      (fCuts_reach_48 k17 fuel v2 v3 v4 v5 v6 (v7 + 1) M)
    else
      (if ¬ ((zshr v3 v7) &&& 1) = 0 then
        (fCuts_reach_48 k17 fuel v2 v3 v4 v5 v6 (v7 + 1) M)
      else
        (lt (v3 ||| (zshl 1 v7)) fun u3_91 =>
        wr M 52 12 v7 v6 fun M2 =>
        wr M2 51 12 v4 v7 fun M3 =>
        fCuts_reach_48 k17 fuel v2 u3_91 (v4 + 1) v5 v6 (v7 + 1) M3)))
def fCuts_reach_125 (v2 : Int32) (v3 : Int32) (M : zM) : Option (Int32 × zM) :=
  if ¬ ((zshr v3 v2) &&& 1) = 1 then
    (zbl 0 (some (0, M)))
  else
    (zbl 1 (some (1, M)))
def fCuts_reach_17 : Nat → Int32 → Int32 → Int32 → Int32 → zM → Option (Int32 × zM)
  | 0, _, _, _, _, _ => none
  | fuel + 1, v2, v3, v4, v5, M =>
  if v4 ≤ v5 then
    (fCuts_reach_125 v2 v3 M)
  else
    (if (M 1 0) ≤ v5 then
      (fCuts_reach_125 v2 v3 M)
    else
      (rd M 51 12 v5 fun x1 =>
      fCuts_reach_48 (fCuts_reach_17 fuel) FU v2 v3 v4 v5 x1 0 M))
def fCuts_reach (v1 : Int32) (v2 : Int32) (M : zM) : Option (Int32 × zM) :=
  lt (zshl 1 v1) fun u3_3 =>
  wr M 51 12 0 v1 fun M1 =>
  fCuts_reach_17 FU v2 u3_3 1 0 M1
def fCuts_takeWay_5 : Nat → Int32 → Int32 → Int32 → zM → Option (Unit × zM)
  | 0, _, _, _, _ => none
  | fuel + 1, v1, v3, v4, M =>
  if (12 : Int32) ≤ v4 then
    (some ((), M))
  else
    (if v3 = v1 then
      (some ((), M))
    else
      (rd M 52 12 v3 fun x1 =>
      rd M 50 12 v3 fun x2 =>
      if ¬ ((zshr x2 x1) &&& 1) = 1 then
        (rd M 50 12 v3 fun x3 =>
        wr M 50 12 v3 (x3 ||| (zshl 1 x1)) fun M4 =>
        fCuts_takeWay_5 fuel v1 x1 (v4 + 1) M4)
      else
        (rd M 50 12 x1 fun x5 =>
        wr M 50 12 x1 (x5 &&& ((zshl 1 v3) ^^^ (-1))) fun M6 =>
        fCuts_takeWay_5 fuel v1 x1 (v4 + 1) M6)))
def fCuts_takeWay (v1 : Int32) (v2 : Int32) (M : zM) : Option (Unit × zM) :=
  fCuts_takeWay_5 FU v1 v2 0 M
def fCuts_separateWays_20 : Nat → Int32 → Int32 → Int32 → zM → Option (Int32 × zM)
  | 0, _, _, _, _ => none
  | fuel + 1, v1, v2, v3, M =>
  if (12 : Int32) ≤ v3 then
    (some (12, M))
  else
    (cl (fCuts_reach v1 v2 M) fun r2 M1 =>
    if ¬ r2 = 0 then
      (cl (fCuts_takeWay v1 v2 M1) fun _ M3 =>
      fCuts_separateWays_20 fuel v1 v2 (v3 + 1) M3)
    else
      (some (v3, M1)))
def fCuts_separateWays (v1 : Int32) (v2 : Int32) (M : zM) : Option (Int32 × zM) :=
  zcp M 4 12 50 12 0 0 12 fun M1 =>
  fCuts_separateWays_20 FU v1 v2 0 M1
def fNames_begin (c0 : Nat) (v1 : Int32) (M : zM) : Option (Unit × zM) :=
  wf M c0 2 v1 fun M1 =>
  cl (fJ7_fill (c0 + 1) 12 0 M1) fun _ M2 =>
  some ((), M2)
def fNames_append (c0 : Nat) (v1 : Int32) (v2 : Int32) (M : zM) : Option (Unit × zM) :=
  rd M (c0 + 1) 12 v1 fun x1 =>
  if (M c0 1) ≤ x1 then
    (some ((), M))
  else
    (rd M (c0 + 1) 12 v1 fun x2 =>
    wr M (c0 + 2) (zln (c0 + 2)) ((v1 * (M c0 1)) + x2) v2 fun M3 =>
    rd M3 (c0 + 1) 12 v1 fun x4 =>
    wr M3 (c0 + 1) 12 v1 (x4 + 1) fun M5 =>
    some ((), M5))
def fLabels_nameAbove_10 : Nat → Nat → Int32 → zM → Option (Unit × zM)
  | 0, _, _, _ => none
  | fuel + 1, c1, v3, M =>
  if (M 1 0) ≤ v3 then
    (some ((), M))
  else
    (rd M 9 12 v3 fun x1 =>
    cl (fNames_append c1 v3 x1 M) fun _ M2 =>
    rd M2 10 12 v3 fun x3 =>
    cl (fNames_append c1 v3 x3 M2) fun _ M4 =>
    fLabels_nameAbove_10 fuel c1 (v3 + 1) M4)
def fLabels_nameAbove (c1 : Nat) (M : zM) : Option (Unit × zM) :=
  cl (fTree_fresh  M) fun r2 M1 =>
  if r2 = 5 then
    (fLabels_nameAbove_10 FU c1 0 M1)
  else none
def fLabels_fewestLines_8 : Nat → Int32 → Int32 → Int32 → Int32 → zM → Option (Int32 × zM)
  | 0, _, _, _, _, _ => none
  | fuel + 1, v1, v2, v3, v4, M =>
  if (M 1 0) ≤ v4 then
    (some (v2, M))
  else
    (rd M 4 12 v4 fun x1 =>
    cl (fJ6_bitCount (x1 &&& v1) M) fun r3 M2 =>
    if ¬ ((zshr v1 v4) &&& 1) = 1 then
      (fLabels_fewestLines_8 fuel v1 v2 v3 (v4 + 1) M2)
    else
      (if v3 ≤ r3 then
        (fLabels_fewestLines_8 fuel v1 v2 v3 (v4 + 1) M2)
      else
        (fLabels_fewestLines_8 fuel v1 v4 r3 (v4 + 1) M2)))
def fLabels_fewestLines (v1 : Int32) (M : zM) : Option (Int32 × zM) :=
  fLabels_fewestLines_8 FU v1 0 12 0 M
def fLabels_nameJoined_97 (k65 : Nat → Int32 → zM → Option (Unit × zM)) : Nat → Nat → Int32 → Int32 → zM → Option (Unit × zM)
  | 0, _, _, _, _ => none
  | fuel + 1, c1, v3, v4, M =>
  if (M 1 0) ≤ v4 then
    (k65 c1 (v3 + 1) M)
  else
    (rd M 18 12 v4 fun x1 =>
    cl (fNet_joins v3 x1 M) fun r3 M2 =>
    if r3 = 0 then
      (fLabels_nameJoined_97 k65 fuel c1 v3 (v4 + 1) M2)
    else
      (cl (fNames_append c1 v3 v4 M2) fun _ M4 =>
      fLabels_nameJoined_97 k65 fuel c1 v3 (v4 + 1) M4))
def fLabels_nameJoined_65 : Nat → Nat → Int32 → zM → Option (Unit × zM)
  | 0, _, _, _ => none
  | fuel + 1, c1, v3, M =>
  if (M 1 0) ≤ v3 then
    (some ((), M))
  else
    (rd M 17 12 v3 fun x1 =>
    cl (fNames_append c1 v3 x1 M) fun _ M2 =>
    rd M2 17 12 v3 fun x3 =>
    lt (x3 + 1) fun u4_95 =>
    fLabels_nameJoined_97 (fLabels_nameJoined_65 fuel) FU c1 v3 u4_95 M2)
def fLabels_nameJoined_14 : Nat → Nat → Int32 → Int32 → zM → Option (Unit × zM)
  | 0, _, _, _, _ => none
  | fuel + 1, c1, v2, v3, M =>
  if (M 1 0) ≤ v3 then
    (fLabels_nameJoined_65 FU c1 0 M)
  else
    (cl (fLabels_fewestLines v2 M) fun r2 M1 =>
    wr M1 17 12 r2 v3 fun M3 =>
    wr M3 18 12 v3 r2 fun M4 =>
    lt (v2 &&& ((zshl 1 r2) ^^^ (-1))) fun u2_56 =>
    fLabels_nameJoined_14 fuel c1 u2_56 (v3 + 1) M4)
def fLabels_nameJoined (c1 : Nat) (M : zM) : Option (Unit × zM) :=
  lt ((zshl 1 (M 1 0)) - 1) fun u2_11 =>
  fLabels_nameJoined_14 FU c1 u2_11 0 M
def fNet_degree (v1 : Int32) (M : zM) : Option (Int32 × zM) :=
  rd M 4 12 v1 fun x1 =>
  cl (fJ6_bitCount x1 M) fun r3 M2 =>
  some (r3, M2)
def fLabels_mostLines_7 : Nat → Int32 → Int32 → Int32 → Int32 → zM → Option (Int32 × zM)
  | 0, _, _, _, _, _ => none
  | fuel + 1, v1, v2, v3, v4, M =>
  if (M 1 0) ≤ v4 then
    (some (v2, M))
  else
    (if ¬ ((zshr v1 v4) &&& 1) = 1 then
      (fLabels_mostLines_7 fuel v1 v2 v3 (v4 + 1) M)
    else
      (cl (fNet_degree v4 M) fun r2 M1 =>
      if r2 ≤ v3 then
        (fLabels_mostLines_7 fuel v1 v2 v3 (v4 + 1) M1)
      else
        (cl (fNet_degree v4 M1) fun r4 M3 =>
        fLabels_mostLines_7 fuel v1 v4 r4 (v4 + 1) M3)))
def fLabels_mostLines (v1 : Int32) (M : zM) : Option (Int32 × zM) :=
  fLabels_mostLines_7 FU v1 0 (-1) 0 M
def fNames_number (c0 : Nat) (v1 : Int32) (v2 : Int32) (M : zM) : Option (Int32 × zM) :=
  if ¬ v2 = (-1) then
    (if v2 < 0 then
      (some ((-1), M))
    else
      (rd M (c0 + 1) 12 v1 fun x1 =>
      if x1 ≤ v2 then
        (some ((-1), M))
      else
        (rd M (c0 + 2) (zln (c0 + 2)) ((v1 * (M c0 1)) + v2) fun x2 =>
        some (x2, M))))
  else
    (rd M (c0 + 1) 12 v1 fun x3 =>
    some (x3, M))
def fNames_distance_19 (k5 : Nat → Int32 → Int32 → Int32 → Int32 → zM → Option (Int32 × zM)) : Nat → Nat → Int32 → Int32 → Int32 → Int32 → Int32 → zM → Option (Int32 × zM)
  | 0, _, _, _, _, _, _, _ => none
  | fuel + 1, c0, v1, v2, v3, v4, v5, M =>
  rd M (c0 + 1) 12 v2 fun x1 =>
  if x1 ≤ v5 then
    (k5 c0 v1 v2 v3 (v4 + 2) M)
  else
    (cl (fNames_number c0 v1 v4 M) fun r3 M2 =>
    cl (fNames_number c0 v2 v5 M2) fun r5 M4 =>
    if ¬ r3 = r5 then
      (fNames_distance_19 k5 fuel c0 v1 v2 v3 v4 (v5 + 2) M4)
    else
      (cl (fNames_number c0 v1 (v4 + 1) M4) fun r7 M6 =>
      cl (fNames_number c0 v2 (v5 + 1) M6) fun r9 M8 =>
      lt (r7 + r9) fun u6_66 =>
      if ¬ v3 = (-1) then
        (lt (zmin v3 u6_66) fun u3_84 =>
        fNames_distance_19 k5 fuel c0 v1 v2 u3_84 v4 (v5 + 2) M8)
      else
        (fNames_distance_19 k5 fuel c0 v1 v2 u6_66 v4 (v5 + 2) M8)))
def fNames_distance_5 : Nat → Nat → Int32 → Int32 → Int32 → Int32 → zM → Option (Int32 × zM)
  | 0, _, _, _, _, _, _ => none
  | fuel + 1, c0, v1, v2, v3, v4, M =>
  rd M (c0 + 1) 12 v1 fun x1 =>
  if x1 ≤ v4 then
    (some (v3, M))
  else
    (fNames_distance_19 (fNames_distance_5 fuel) FU c0 v1 v2 v3 v4 0 M)
def fNames_distance (c0 : Nat) (v1 : Int32) (v2 : Int32) (M : zM) : Option (Int32 × zM) :=
  fNames_distance_5 FU c0 v1 v2 (-1) 0 M
def fLabels_spread_110 (k24 : Nat → Int32 → Int32 → Int32 → Int32 → zM → Option (Unit × zM)) : Nat → Nat → Int32 → Int32 → Int32 → Int32 → Int32 → Int32 → zM → Option (Unit × zM)
  | 0, _, _, _, _, _, _, _, _ => none
  | fuel + 1, c1, v2, v3, v4, v5, v6, v8, M =>
  if (M 1 0) ≤ v8 then
    (k24 c1 v2 v3 v4 (v5 + 1) M)
  else
    (cl (fNet_joins v6 v8 M) fun r2 M1 =>
    if r2 = 0 then
      (fLabels_spread_110 k24 fuel c1 v2 v3 v4 v5 v6 (v8 + 1) M1)
    else
      (if ¬ ((zshr v3 v8) &&& 1) = 0 then
        (fLabels_spread_110 k24 fuel c1 v2 v3 v4 v5 v6 (v8 + 1) M1)
      else
        (lt (v3 ||| (zshl 1 v8)) fun u3_151 =>
        rd M1 22 12 v6 fun x3 =>
        wr M1 22 12 v8 (x3 + 1) fun M4 =>
        wr M4 21 12 v4 v8 fun M5 =>
        fLabels_spread_110 k24 fuel c1 v2 u3_151 (v4 + 1) v5 v6 (v8 + 1) M5)))
def fLabels_spread_82 (k24 : Nat → Int32 → Int32 → Int32 → Int32 → zM → Option (Unit × zM)) (c1 : Nat) (v2 : Int32) (v3 : Int32) (v4 : Int32) (v5 : Int32) (v6 : Int32) (M : zM) : Option (Unit × zM) :=
  rd M 19 12 v2 fun x1 =>
  cl (fNames_append c1 v6 x1 M) fun _ M2 =>
  rd M2 22 12 v6 fun x3 =>
  cl (fNames_append c1 v6 x3 M2) fun _ M4 =>
  fLabels_spread_110 k24 FU c1 v2 v3 v4 v5 v6 0 M4
def fLabels_spread_24 : Nat → Nat → Int32 → Int32 → Int32 → Int32 → zM → Option (Unit × zM)
  | 0, _, _, _, _, _, _ => none
  | fuel + 1, c1, v2, v3, v4, v5, M =>
  if v4 ≤ v5 then
    (some ((), M))
  else
    (if (M 1 0) ≤ v5 then
      (some ((), M))
    else
      (rd M 21 12 v5 fun x1 =>
      cl (fNames_distance c1 x1 v2 M) fun r3 M2 =>
      if r3 = (-1) then
        (fLabels_spread_82 (fLabels_spread_24 fuel) c1 v2 v3 v4 v5 x1 M2)
      else
        (rd M2 22 12 x1 fun x4 =>
        if x4 < r3 then
          (fLabels_spread_82 (fLabels_spread_24 fuel) c1 v2 v3 v4 v5 x1 M2)
        else
          (fLabels_spread_24 fuel c1 v2 v3 v4 (v5 + 1) M2))))
def fLabels_spread (c1 : Nat) (v2 : Int32) (M : zM) : Option (Unit × zM) :=
  lt (zshl 1 v2) fun u3_3 =>
  wr M 21 12 0 v2 fun M1 =>
  wr M1 22 12 v2 0 fun M2 =>
  fLabels_spread_24 FU c1 v2 u3_3 1 0 M2
def fLabels_nameFar_65 : Nat → Nat → Int32 → zM → Option (Unit × zM)
  | 0, _, _, _ => none
  | fuel + 1, c1, v3, M =>
  if (M 1 0) ≤ v3 then
    (some ((), M))
  else
    (rd M 20 12 v3 fun x1 =>
    cl (fLabels_spread c1 x1 M) fun _ M2 =>
    fLabels_nameFar_65 fuel c1 (v3 + 1) M2)
def fLabels_nameFar_14 : Nat → Nat → Int32 → Int32 → zM → Option (Unit × zM)
  | 0, _, _, _, _ => none
  | fuel + 1, c1, v2, v3, M =>
  if (M 1 0) ≤ v3 then
    (fLabels_nameFar_65 FU c1 0 M)
  else
    (cl (fLabels_mostLines v2 M) fun r2 M1 =>
    wr M1 19 12 r2 v3 fun M3 =>
    wr M3 20 12 v3 r2 fun M4 =>
    lt (v2 &&& ((zshl 1 r2) ^^^ (-1))) fun u2_56 =>
    fLabels_nameFar_14 fuel c1 u2_56 (v3 + 1) M4)
def fLabels_nameFar (c1 : Nat) (M : zM) : Option (Unit × zM) :=
  lt ((zshl 1 (M 1 0)) - 1) fun u2_11 =>
  fLabels_nameFar_14 FU c1 u2_11 0 M
def fLabels_now (v1 : Int32) (M : zM) : Option (Nat × zM) :=
  rr zRX 15 3 v1 fun b1 =>
  rd M 16 3 v1 fun x2 =>
  if x2 = (M 1 2) then
    (some (b1, M))
  else
    (wr M 16 3 v1 (M 1 2) fun M3 =>
    cl (fNames_begin b1 (M3 1 0) M3) fun _ M4 =>
    if ¬ v1 = 0 then
      (if ¬ v1 = 1 then
        (cl (fLabels_nameFar b1 M4) fun _ M5 =>
        some (b1, M5))
      else
        (cl (fLabels_nameJoined b1 M4) fun _ M6 =>
        some (b1, M6)))
    else
      (cl (fLabels_nameAbove b1 M4) fun _ M7 =>
      some (b1, M7)))
def fLabels_turnOf (v1 : Int32) (M : zM) : Option (Int32 × zM) :=
  cl (fLabels_now 1 M) fun r2 M1 =>
  if zNb r2 = true then
    (rd M1 17 12 v1 fun x3 =>
  some (x3, M1))
  else none
def fLabels_rankOf (v1 : Int32) (M : zM) : Option (Int32 × zM) :=
  cl (fLabels_now 2 M) fun r2 M1 =>
  if zNb r2 = true then
    (rd M1 19 12 v1 fun x3 =>
  some (x3, M1))
  else none
def fNames_has (c0 : Nat) (v1 : Int32) (v2 : Int32) (M : zM) : Option (Int32 × zM) :=
  if v2 < 0 then
    (zbl 0 (some (0, M)))
  else
    (rd M (c0 + 1) 12 v1 fun x1 =>
    if x1 ≤ v2 then
      (zbl 0 (some (0, M)))
    else
      (zbl 1 (some (1, M))))
def fNames_put (c0 : Nat) (v1 : Int32) (v2 : Int32) (v3 : Int32) (M : zM) : Option (Unit × zM) :=
  cl (fNames_has c0 v1 v2 M) fun r2 M1 =>
  if r2 = 0 then
    (some ((), M1))
  else
    (wr M1 (c0 + 2) (zln (c0 + 2)) ((v1 * (M1 c0 1)) + v2) v3 fun M3 =>
    some ((), M3))
def fNames_copy_20 (k10 : Nat → Nat → Int32 → zM → Option (Unit × zM)) : Nat → Nat → Nat → Int32 → Int32 → zM → Option (Unit × zM)
  | 0, _, _, _, _, _ => none
  | fuel + 1, c0, c1, v2, v3, M =>
  rd M (c1 + 1) 12 v2 fun x1 =>
  if x1 ≤ v3 then
    (k10 c0 c1 (v2 + 1) M)
  else
    (cl (fNames_number c1 v2 v3 M) fun r3 M2 =>
    cl (fNames_append c0 v2 r3 M2) fun _ M4 =>
    fNames_copy_20 k10 fuel c0 c1 v2 (v3 + 1) M4)
def fNames_copy_10 : Nat → Nat → Nat → Int32 → zM → Option (Unit × zM)
  | 0, _, _, _, _ => none
  | fuel + 1, c0, c1, v2, M =>
  if (M c0 2) ≤ v2 then
    (some ((), M))
  else
    (fNames_copy_20 (fNames_copy_10 fuel) FU c0 c1 v2 0 M)
def fNames_copy (c0 : Nat) (c1 : Nat) (M : zM) : Option (Unit × zM) :=
  cl (fNames_begin c0 (M c1 2) M) fun _ M1 =>
  fNames_copy_10 FU c0 c1 0 M1
def fNames_isLike_35 : Nat → Nat → Nat → Int32 → Int32 → zM → Option (Int32 × zM)
  | 0, _, _, _, _, _ => none
  | fuel + 1, c0, c1, v2, v3, M =>
  rd M (c0 + 1) 12 v2 fun x1 =>
  if x1 ≤ v3 then
    (zbl 1 (some (1, M)))
  else
    (cl (fNames_number c0 v2 v3 M) fun r3 M2 =>
    cl (fNames_number c1 v2 v3 M2) fun r5 M4 =>
    if r3 = r5 then
      (fNames_isLike_35 fuel c0 c1 v2 (v3 + 1) M4)
    else
      (zbl 0 (some (0, M4))))
def fNames_isLike (c0 : Nat) (c1 : Nat) (v2 : Int32) (M : zM) : Option (Int32 × zM) :=
  if (M c0 2) ≤ v2 then
    (zbl 0 (some (0, M)))
  else
    (if (M c1 2) ≤ v2 then
      (zbl 0 (some (0, M)))
    else
      (rd M (c0 + 1) 12 v2 fun x1 =>
      rd M (c1 + 1) 12 v2 fun x2 =>
      if x1 = x2 then
        (fNames_isLike_35 FU c0 c1 v2 0 M)
      else
        (zbl 0 (some (0, M)))))
def fNames_isAbove (c0 : Nat) (v1 : Int32) (v2 : Int32) (M : zM) : Option (Int32 × zM) :=
  cl (fNames_number c0 v2 0 M) fun r2 M1 =>
  cl (fNames_number c0 v1 0 M1) fun r4 M3 =>
  if r2 < r4 then
    (zbl 0 (some (0, M3)))
  else
    (cl (fNames_number c0 v1 1 M3) fun r6 M5 =>
    if r6 < r2 then
      (zbl 0 (some (0, M5)))
    else
      (zbl 1 (some (1, M5))))
def fNames_standsBehind_10 : Nat → Nat → Int32 → Int32 → Int32 → zM → Option (Int32 × zM)
  | 0, _, _, _, _, _ => none
  | fuel + 1, c0, v2, v3, v4, M =>
  rd M (c0 + 1) 12 v2 fun x1 =>
  if x1 ≤ v4 then
    (zbl 0 (some (0, M)))
  else
    (cl (fNames_number c0 v2 v4 M) fun r3 M2 =>
    if ¬ r3 = v3 then
      (fNames_standsBehind_10 fuel c0 v2 v3 (v4 + 1) M2)
    else
      (zbl 1 (some (1, M2))))
def fNames_standsBehind (c0 : Nat) (v1 : Int32) (v2 : Int32) (M : zM) : Option (Int32 × zM) :=
  cl (fNames_number c0 v1 0 M) fun r2 M1 =>
  fNames_standsBehind_10 FU c0 v2 r2 1 M1
def fNames_reply (c0 : Nat) (v1 : Int32) (v2 : Int32) (M : zM) : Option (Int32 × zM) :=
  if ¬ (M c0 0) = 0 then
    (if ¬ (M c0 0) = 1 then
      (cl (fNames_distance c0 v1 v2 M) fun r2 M1 =>
      some (r2, M1))
    else
      (cl (fNames_standsBehind c0 v1 v2 M) fun r4 M3 =>
      if ¬ r4 = 0 then
        (some (1, M3))
      else
        (cl (fNames_standsBehind c0 v2 v1 M3) fun r6 M5 =>
        if r6 = 0 then
          (some (0, M5))
        else
          (some (1, M5)))))
  else
    (cl (fNames_isAbove c0 v1 v2 M) fun r8 M7 =>
    if r8 = 0 then
      (some (0, M7))
    else
      (some (1, M7)))
def fNet_hasPost (v1 : Int32) (M : zM) : Option (Int32 × zM) :=
  if v1 < 0 then
    (zbl 0 (some (0, M)))
  else
    (if (M 1 0) ≤ v1 then
      (zbl 0 (some (0, M)))
    else
      (zbl 1 (some (1, M))))
def fNet_hasPosts (v1 : Int32) (v2 : Int32) (M : zM) : Option (Int32 × zM) :=
  cl (fNet_hasPost v1 M) fun r2 M1 =>
  if r2 = 0 then
    (zbl 0 (some (0, M1)))
  else
    (cl (fNet_hasPost v2 M1) fun r4 M3 =>
    if r4 = 0 then
      (zbl 0 (some (0, M3)))
    else
      (zbl 1 (some (1, M3))))
def fNet_hasLine (v1 : Int32) (M : zM) : Option (Int32 × zM) :=
  if v1 < 0 then
    (zbl 0 (some (0, M)))
  else
    (if (M 1 1) ≤ v1 then
      (zbl 0 (some (0, M)))
    else
      (zbl 1 (some (1, M))))
def fNet_hasLines (v1 : Int32) (M : zM) : Option (Int32 × zM) :=
  if ¬ (zush v1 (M 1 1)) = 0 then
    (zbl 0 (some (0, M)))
  else
    (zbl 1 (some (1, M)))
def fNet_mostLines_4 : Nat → Int32 → Int32 → zM → Option (Int32 × zM)
  | 0, _, _, _ => none
  | fuel + 1, v1, v2, M =>
  if (M 1 0) ≤ v2 then
    (some (v1, M))
  else
    (cl (fNet_degree v2 M) fun r2 M1 =>
    lt (zmax v1 r2) fun u1_21 =>
    fNet_mostLines_4 fuel u1_21 (v2 + 1) M1)
def fNet_mostLines  (M : zM) : Option (Int32 × zM) :=
  fNet_mostLines_4 FU 0 0 M
def fNet_begin (v1 : Int32) (M : zM) : Option (Unit × zM) :=
  wf M 1 0 v1 fun M1 =>
  wf M1 1 1 0 fun M2 =>
  cl (fJ7_fill 4 12 0 M2) fun _ M3 =>
  wf M3 1 2 ((M3 1 2) + 1) fun M4 =>
  some ((), M4)
def fNet_addPost  (M : zM) : Option (Int32 × zM) :=
  wf M 1 2 ((M 1 2) + 1) fun M1 =>
  wf M1 1 0 ((M1 1 0) + 1) fun M2 =>
  some (((M2 1 0) - 1), M2)
def fNet_addLine (v1 : Int32) (v2 : Int32) (M : zM) : Option (Int32 × zM) :=
  wr M 2 30 (M 1 1) v1 fun M1 =>
  wr M1 3 30 (M1 1 1) v2 fun M2 =>
  rd M2 4 12 v1 fun x3 =>
  wr M2 4 12 v1 (x3 ||| (zshl 1 v2)) fun M4 =>
  rd M4 4 12 v2 fun x5 =>
  wr M4 4 12 v2 (x5 ||| (zshl 1 v1)) fun M6 =>
  wf M6 1 2 ((M6 1 2) + 1) fun M7 =>
  wf M7 1 1 ((M7 1 1) + 1) fun M8 =>
  some (((M8 1 1) - 1), M8)
def fNet_removeLine_50 : Nat → Int32 → zM → Option (Unit × zM)
  | 0, _, _ => none
  | fuel + 1, v2, M =>
  if ((M 1 1) - 1) ≤ v2 then
    (wf M 1 2 ((M 1 2) + 1) fun M1 =>
    wf M1 1 1 ((M1 1 1) - 1) fun M2 =>
    some ((), M2))
  else
    (rd M 2 30 (v2 + 1) fun x3 =>
    wr M 2 30 v2 x3 fun M4 =>
    rd M4 3 30 (v2 + 1) fun x5 =>
    wr M4 3 30 v2 x5 fun M6 =>
    fNet_removeLine_50 fuel (v2 + 1) M6)
def fNet_removeLine (v1 : Int32) (M : zM) : Option (Unit × zM) :=
  rd M 2 30 v1 fun x1 =>
  rd M 4 12 x1 fun x2 =>
  rd M 3 30 v1 fun x3 =>
  wr M 4 12 x1 (x2 &&& ((zshl 1 x3) ^^^ (-1))) fun M4 =>
  rd M4 3 30 v1 fun x5 =>
  rd M4 4 12 x5 fun x6 =>
  rd M4 2 30 v1 fun x7 =>
  wr M4 4 12 x5 (x6 &&& ((zshl 1 x7) ^^^ (-1))) fun M8 =>
  fNet_removeLine_50 FU v1 M8
def fPage_has (c0 : Nat) (v1 : Int32) (M : zM) : Option (Int32 × zM) :=
  if v1 < 0 then
    (zbl 0 (some (0, M)))
  else
    (if (M (c0 + 2) 2) ≤ v1 then
      (zbl 0 (some (0, M)))
    else
      (zbl 1 (some (1, M))))
def fPage_checkOf_15 : Nat → Nat → Int32 → Int32 → Int32 → zM → Option (Int32 × zM)
  | 0, _, _, _, _, _ => none
  | fuel + 1, c0, v1, v2, v3, M =>
  rd M (c0 + 2 + 1) 12 v1 fun x1 =>
  if x1 ≤ v3 then
    (zmod v2 101 fun z2 =>
    some (z2, M))
  else
    (cl (fNames_number (c0 + 2) v1 v3 M) fun r4 M3 =>
    lt (v2 + (r4 * (v3 + 1))) fun u2_43 =>
    fPage_checkOf_15 fuel c0 v1 u2_43 (v3 + 1) M3)
def fPage_checkOf (c0 : Nat) (v1 : Int32) (M : zM) : Option (Int32 × zM) :=
  rd M (c0 + 2 + 1) 12 v1 fun x1 =>
  lt (7 * x1) fun u2_12 =>
  fPage_checkOf_15 FU c0 v1 u2_12 0 M
def fPage_take_15 : Nat → Nat → Int32 → zM → Option (Unit × zM)
  | 0, _, _, _ => none
  | fuel + 1, c0, v2, M =>
  if (M (c0 + 2) 2) ≤ v2 then
    (some ((), M))
  else
    (cl (fPage_checkOf c0 v2 M) fun r2 M1 =>
    wr M1 (c0 + 1) 12 v2 r2 fun M3 =>
    fPage_take_15 fuel c0 (v2 + 1) M3)
def fPage_take (c0 : Nat) (c1 : Nat) (M : zM) : Option (Unit × zM) :=
  wf M c0 0 1 fun M1 =>
  cl (fNames_copy (c0 + 2) c1 M1) fun _ M2 =>
  fPage_take_15 FU c0 0 M2
def fPage_isRight (c0 : Nat) (v1 : Int32) (M : zM) : Option (Int32 × zM) :=
  rd M (c0 + 1) 12 v1 fun x1 =>
  cl (fPage_checkOf c0 v1 M) fun r3 M2 =>
  if ¬ x1 = r3 then
    (zbl 0 (some (0, M2)))
  else
    (zbl 1 (some (1, M2)))
def fPage_wrongChecks_4 : Nat → Nat → Int32 → Int32 → zM → Option (Int32 × zM)
  | 0, _, _, _, _ => none
  | fuel + 1, c0, v1, v2, M =>
  if (M (c0 + 2) 2) ≤ v2 then
    (some (v1, M))
  else
    (cl (fPage_isRight c0 v2 M) fun r2 M1 =>
    if r2 = 0 then
      (lt (v1 + 1) fun u1_30 =>
      fPage_wrongChecks_4 fuel c0 u1_30 (v2 + 1) M1)
    else
      (lt (v1 + 0) fun u1_30 =>
      fPage_wrongChecks_4 fuel c0 u1_30 (v2 + 1) M1))
def fPage_wrongChecks (c0 : Nat) (M : zM) : Option (Int32 × zM) :=
  fPage_wrongChecks_4 FU c0 0 0 M
def fPage_unlike_4 : Nat → Nat → Nat → Int32 → Int32 → zM → Option (Int32 × zM)
  | 0, _, _, _, _, _ => none
  | fuel + 1, c0, c1, v2, v3, M =>
  if (zmax (M (c0 + 2) 2) (M c1 2)) ≤ v3 then
    (some (v2, M))
  else
    (cl (fNames_isLike (c0 + 2) c1 v3 M) fun r2 M1 =>
    if ¬ r2 = 0 then
      (fPage_unlike_4 fuel c0 c1 v2 (v3 + 1) M1)
    else
      (lt (v2 ||| (zshl 1 v3)) fun u2_39 =>
      fPage_unlike_4 fuel c0 c1 u2_39 (v3 + 1) M1))
def fPage_unlike (c0 : Nat) (c1 : Nat) (M : zM) : Option (Int32 × zM) :=
  fPage_unlike_4 FU c0 c1 0 0 M
def fTree_isAbove (v1 : Int32) (v2 : Int32) (M : zM) : Option (Int32 × zM) :=
  rd M 9 12 v2 fun x1 =>
  rd M 9 12 v1 fun x2 =>
  if x1 < x2 then
    (zbl 0 (some (0, M)))
  else
    (rd M 9 12 v2 fun x3 =>
    rd M 10 12 v1 fun x4 =>
    if x4 < x3 then
      (zbl 0 (some (0, M)))
    else
      (zbl 1 (some (1, M))))
def fParcels_step_51 : Nat → Int32 → Int32 → Int32 → zM → Option (Int32 × zM)
  | 0, _, _, _, _ => none
  | fuel + 1, v1, v2, v4, M =>
  if (M 1 0) ≤ v4 then
    (some ((-1), M))
  else
    (rd M 6 12 v4 fun x1 =>
    if ¬ x1 = v1 then
      (fParcels_step_51 fuel v1 v2 (v4 + 1) M)
    else
      (cl (fTree_isAbove v4 v2 M) fun r3 M2 =>
      if r3 = 0 then
        (fParcels_step_51 fuel v1 v2 (v4 + 1) M2)
      else
        (some (v4, M2))))
def fParcels_step (v1 : Int32) (v2 : Int32) (M : zM) : Option (Int32 × zM) :=
  cl (fTree_fresh  M) fun r2 M1 =>
  if r2 = 5 then
    (if ¬ v1 = v2 then
    (rd M1 7 12 v1 fun x3 =>
    rd M1 7 12 v2 fun x4 =>
    if x3 = x4 then
      (cl (fTree_isAbove v1 v2 M1) fun r6 M5 =>
      if ¬ r6 = 0 then
        (fParcels_step_51 FU v1 v2 0 M5)
      else
        (rd M5 6 12 v1 fun x7 =>
        some (x7, M5)))
    else
      (some ((-1), M1)))
  else
    (some (v2, M1)))
  else none
def fParcels_length (v1 : Int32) (v2 : Int32) (M : zM) : Option (Int32 × zM) :=
  cl (fTree_fresh  M) fun r2 M1 =>
  if r2 = 5 then
    (rd M1 7 12 v1 fun x3 =>
  rd M1 7 12 v2 fun x4 =>
  if x3 = x4 then
    (rd M1 8 12 v1 fun x5 =>
    rd M1 8 12 v2 fun x6 =>
    cl (fJ6_bitCount (x5 ^^^ x6) M1) fun r8 M7 =>
    some (r8, M7))
  else
    (some ((-1), M1)))
  else none
def fParcels_offer (v1 : Int32) (v2 : Int32) (v3 : Int32) (v4 : Int32) (M : zM) : Option (Unit × zM) :=
  if (v3 * (M 48 4)) ≤ ((M 48 3) * v4) then
    (some ((), M))
  else
    (wf M 48 3 v3 fun M1 =>
    wf M1 48 4 v4 fun M2 =>
    wf M2 48 5 v1 fun M3 =>
    wf M3 48 6 v2 fun M4 =>
    some ((), M4))
def fParcels_findStretch_35 (k22 : Nat → Int32 → zM → Option (Unit × zM)) : Nat → Nat → Int32 → Int32 → zM → Option (Unit × zM)
  | 0, _, _, _, _ => none
  | fuel + 1, c1, v2, v3, M =>
  if (M 1 0) ≤ v3 then
    (k22 c1 (v2 + 1) M)
  else
    (cl (fParcels_length v2 v3 M) fun r2 M1 =>
    if v2 = v3 then
      (fParcels_findStretch_35 k22 fuel c1 v2 (v3 + 1) M1)
    else
      (if r2 = (-1) then
        (fParcels_findStretch_35 k22 fuel c1 v2 (v3 + 1) M1)
      else
        (cl (fNames_distance c1 v2 v3 M1) fun r4 M3 =>
        cl (fParcels_offer v2 v3 r2 r4 M3) fun _ M5 =>
        fParcels_findStretch_35 k22 fuel c1 v2 (v3 + 1) M5)))
def fParcels_findStretch_22 : Nat → Nat → Int32 → zM → Option (Unit × zM)
  | 0, _, _, _ => none
  | fuel + 1, c1, v2, M =>
  if (M 1 0) ≤ v2 then
    (some ((), M))
  else
    (fParcels_findStretch_35 (fParcels_findStretch_22 fuel) FU c1 v2 0 M)
def fParcels_findStretch (c1 : Nat) (M : zM) : Option (Unit × zM) :=
  wf M 48 3 0 fun M1 =>
  wf M1 48 4 1 fun M2 =>
  wf M2 48 5 (-1) fun M3 =>
  wf M3 48 6 (-1) fun M4 =>
  fParcels_findStretch_22 FU c1 0 M4
def fParcels_reduce_5 : Nat → Int32 → zM → Option (Unit × zM)
  | 0, _, _ => none
  | fuel + 1, v1, M =>
  if v1 ≤ 1 then
    (some ((), M))
  else
    (zmod (M 48 3) v1 fun z1 =>
    if ¬ z1 = 0 then
      (fParcels_reduce_5 fuel (v1 + (-1)) M)
    else
      (zmod (M 48 4) v1 fun z2 =>
      if ¬ z2 = 0 then
        (fParcels_reduce_5 fuel (v1 + (-1)) M)
      else
        (zdiv (M 48 3) v1 fun z3 =>
        wf M 48 3 z3 fun M4 =>
        zdiv (M4 48 4) v1 fun z5 =>
        wf M4 48 4 z5 fun M6 =>
        fParcels_reduce_5 fuel (v1 + (-1)) M6)))
def fParcels_reduce  (M : zM) : Option (Unit × zM) :=
  lt (M 48 4) fun u1_4 =>
  fParcels_reduce_5 FU u1_4 M
def fParcels_fresh  (M : zM) : Option (Nat × zM) :=
  if (M 48 7) = (M 1 2) then
    (some (48, M))
  else
    (wf M 48 7 (M 1 2) fun M1 =>
    cl (fLabels_now 2 M1) fun r3 M2 =>
    if zNb r3 = true then
      (cl (fParcels_findStretch r3 M2) fun _ M4 =>
    cl (fParcels_reduce  M4) fun _ M5 =>
    some (48, M5))
    else none)
def fScript_append_5 : Nat → Int64 → Int32 → zM → Option (Int32 × zM)
  | 0, _, _, _ => none
  | fuel + 1, j2, v4, M =>
  if v4 < 0 then
    (some ((M 56 2), M))
  else
    (if (200 : Int32) ≤ (M 56 2) then
      (some ((M 56 2), M))
    else
      (wr M 57 200 (M 56 2) (vp_nar .byte (zi2b ((zlshr j2 (8 * v4)).toInt32))) fun M1 =>
      wf M1 56 2 ((M1 56 2) + 1) fun M2 =>
      fScript_append_5 fuel j2 (v4 + (-1)) M2))
def fScript_append (v1 : Int32) (j2 : Int64) (M : zM) : Option (Int32 × zM) :=
  lt (v1 - 1) fun u4_3 =>
  fScript_append_5 FU j2 u4_3 M
def fScript_skipBlanks_0 : Nat → zM → Option (Unit × zM)
  | 0, _ => none
  | fuel + 1, M =>
  if (M 56 2) ≤ (M 56 5) then
    (some ((), M))
  else
    (rd M 57 200 (M 56 5) fun x1 =>
    if ¬ x1 = 32 then
      (some ((), M))
    else
      (wf M 56 5 ((M 56 5) + 1) fun M2 =>
      fScript_skipBlanks_0 fuel  M2))
def fScript_skipBlanks  (M : zM) : Option (Unit × zM) := fScript_skipBlanks_0 FU  M
def fScript_isLetter (v1 : Int32) (M : zM) : Option (Int32 × zM) :=
  if (M 56 2) ≤ v1 then
    (zbl 0 (some (0, M)))
  else
    (rd M 57 200 v1 fun x1 =>
    if x1 < 97 then
      (zbl 0 (some (0, M)))
    else
      (rd M 57 200 v1 fun x2 =>
      if (122 : Int32) < x2 then
        (zbl 0 (some (0, M)))
      else
        (zbl 1 (some (1, M)))))
def fScript_wordFor (v0 : Int32) (M : zM) : Option (Nat × zM) :=
  zsw v0 0 [
    (some (1000, M)),
    (some (1001, M)),
    (some (1002, M)),
    (some (1003, M))]
    (some (1004, M))
def fJ0_coder (c0 : Nat) (M : zM) : Option (Int32 × zM) :=
  if (1 : Int32) = 0 then
    (znr .byte 1 (some (1, M)))
  else
    (znr .byte 0 (some (0, M)))
def fJ0_length (c0 : Nat) (M : zM) : Option (Int32 × zM) :=
  cl (fJ0_coder c0 M) fun r2 M1 =>
  some ((zshr (zSl (c0 + 1000)) r2), M1)
def fJ0_isLatin1 (c0 : Nat) (M : zM) : Option (Int32 × zM) :=
  if (1 : Int32) = 0 then
    (zbl 0 (some (0, M)))
  else
    (if ¬ (0 : Int32) = 0 then
      (zbl 0 (some (0, M)))
    else
      (zbl 1 (some (1, M))))
def fJ1_charAt (c0 : Nat) (v1 : Int32) (M : zM) : Option (Int32 × zM) :=
  cl (fJ0_checkIndex v1 (zSl c0) M) fun _ M1 =>
  rdS c0 v1 fun x2 =>
  znr .char (zi2c (x2 &&& 255)) (some ((zi2c (x2 &&& 255)), M1))
def fJ0_charAt (c0 : Nat) (v1 : Int32) (M : zM) : Option (Int32 × zM) :=
  cl (fJ0_isLatin1 c0 M) fun r2 M1 =>
  if r2 = 0 then
    (none)
  else
    (cl (fJ1_charAt (c0 + 1000) v1 M1) fun r4 M3 =>
    znr .char r4 (some (r4, M3)))
def fScript_isWord_17 : Nat → Nat → Int32 → Int32 → zM → Option (Int32 × zM)
  | 0, _, _, _, _ => none
  | fuel + 1, c1, v2, v3, M =>
  cl (fJ0_length c1 M) fun r2 M1 =>
  if r2 ≤ v3 then
    (zbl 1 (some (1, M1)))
  else
    (rd M1 57 200 (v2 + v3) fun x3 =>
    cl (fJ0_charAt c1 v3 M1) fun r5 M4 =>
    if x3 = r5 then
      (fScript_isWord_17 fuel c1 v2 (v3 + 1) M4)
    else
      (zbl 0 (some (0, M4))))
def fScript_isWord (c1 : Nat) (v2 : Int32) (M : zM) : Option (Int32 × zM) :=
  cl (fJ0_length c1 M) fun r2 M1 =>
  if ((M 56 5) - v2) = r2 then
    (fScript_isWord_17 FU c1 v2 0 M1)
  else
    (zbl 0 (some (0, M1)))
def fScript_readWord_42 : Nat → Int32 → Int32 → zM → Option (Int32 × zM)
  | 0, _, _, _ => none
  | fuel + 1, v1, v2, M =>
  if (4 : Int32) < v2 then
    (some ((-1), M))
  else
    (cl (fScript_wordFor v2 M) fun r2 M1 =>
    if zSb r2 = true then
      (cl (fScript_isWord r2 v1 M1) fun r4 M3 =>
    if r4 = 0 then
      (fScript_readWord_42 fuel v1 (v2 + 1) M3)
    else
      (some (v2, M3)))
    else none)
def fScript_readWord_5 : Nat → Int32 → zM → Option (Int32 × zM)
  | 0, _, _ => none
  | fuel + 1, v1, M =>
  if (M 56 2) ≤ (M 56 5) then
    (fScript_readWord_42 FU v1 0 M)
  else
    (cl (fScript_isLetter (M 56 5) M) fun r2 M1 =>
    if r2 = 0 then
      (fScript_readWord_42 FU v1 0 M1)
    else
      (wf M1 56 5 ((M1 56 5) + 1) fun M3 =>
      fScript_readWord_5 fuel v1 M3))
def fScript_readWord  (M : zM) : Option (Int32 × zM) :=
  lt (M 56 5) fun u1_4 =>
  fScript_readWord_5 FU u1_4 M
def fScript_fail (v1 : Int32) (v2 : Int32) (M : zM) : Option (Unit × zM) :=
  wf M 56 4 v1 fun M1 =>
  wf M1 56 3 v2 fun M2 =>
  some ((), M2)
def fScript_isFigure (v1 : Int32) (M : zM) : Option (Int32 × zM) :=
  if (M 56 2) ≤ v1 then
    (zbl 0 (some (0, M)))
  else
    (rd M 57 200 v1 fun x1 =>
    if x1 < 48 then
      (zbl 0 (some (0, M)))
    else
      (rd M 57 200 v1 fun x2 =>
      if (57 : Int32) < x2 then
        (zbl 0 (some (0, M)))
      else
        (zbl 1 (some (1, M)))))
def fScript_keep (v1 : Int32) (v2 : Int32) (M : zM) : Option (Unit × zM) :=
  if ¬ v1 = 0 then
    (if ¬ v1 = 1 then
      (rd M 61 12 (M 56 6) fun x1 =>
      wr M 61 12 (M 56 6) (x1 ||| (zshl 1 v2)) fun M2 =>
      some ((), M2))
    else
      (wr M 60 12 (M 56 6) v2 fun M3 =>
      some ((), M3)))
  else
    (wr M 59 12 (M 56 6) v2 fun M4 =>
    some ((), M4))
def fScript_readNumber_123 (v2 : Int32) (M : zM) : Option (Unit × zM) :=
  cl (fScript_fail 3 v2 M) fun _ M1 =>
  some ((), M1)
def fScript_readNumber_132 (v1 : Int32) (v3 : Int32) (M : zM) : Option (Unit × zM) :=
  cl (fScript_keep v1 v3 M) fun _ M1 =>
  some ((), M1)
def fScript_readNumber_74 (v1 : Int32) (v2 : Int32) (v3 : Int32) (M : zM) : Option (Unit × zM) :=
  if ((M 56 5) - v2) ≤ 2 then
    (if (2 : Int32) ≤ v1 then
      (cl (fNet_hasLine v3 M) fun r2 M1 =>
      if ¬ r2 = 0 then
        (fScript_readNumber_132 v1 v3 M1)
      else
        (fScript_readNumber_123 v2 M1))
    else
      (cl (fNet_hasPost v3 M) fun r4 M3 =>
      if ¬ r4 = 0 then
        (fScript_readNumber_132 v1 v3 M3)
      else
        (fScript_readNumber_123 v2 M3)))
  else
    (cl (fScript_fail 2 v2 M) fun _ M5 =>
    some ((), M5))
def fScript_readNumber_7 : Nat → Int32 → Int32 → Int32 → zM → Option (Unit × zM)
  | 0, _, _, _, _ => none
  | fuel + 1, v1, v2, v3, M =>
  if (M 56 2) ≤ (M 56 5) then
    (fScript_readNumber_74 v1 v2 v3 M)
  else
    (cl (fScript_isFigure (M 56 5) M) fun r2 M1 =>
    if r2 = 0 then
      (fScript_readNumber_74 v1 v2 v3 M1)
    else
      (if (2 : Int32) ≤ ((M1 56 5) - v2) then
        (wf M1 56 5 ((M1 56 5) + 1) fun M3 =>
        fScript_readNumber_7 fuel v1 v2 v3 M3)
      else
        (rd M1 57 200 (M1 56 5) fun x4 =>
        lt (((v3 * 10) + x4) - 48) fun u3_60 =>
        wf M1 56 5 ((M1 56 5) + 1) fun M5 =>
        fScript_readNumber_7 fuel v1 v2 u3_60 M5)))
def fScript_readNumber (v1 : Int32) (M : zM) : Option (Unit × zM) :=
  lt (M 56 5) fun u2_4 =>
  fScript_readNumber_7 FU v1 u2_4 0 M
def fScript_readNumbers_83 (k2 : Int32 → Int32 → zM → Option (Unit × zM)) (v1 : Int32) (v2 : Int32) (M : zM) : Option (Unit × zM) :=
  cl (fScript_fail 1 (M 56 5) M) fun _ M1 =>
  k2 v1 (v2 + 1) M1
def fScript_readNumbers_59 (k2 : Int32 → Int32 → zM → Option (Unit × zM)) (v1 : Int32) (v2 : Int32) (M : zM) : Option (Unit × zM) :=
  if v1 ≤ v2 then
    (fScript_readNumbers_83 k2 v1 v2 M)
  else
    (cl (fScript_isFigure (M 56 5) M) fun r2 M1 =>
    if r2 = 0 then
      (fScript_readNumbers_83 k2 v1 v2 M1)
    else
      (cl (fScript_readNumber v2 M1) fun _ M3 =>
      k2 v1 (v2 + 1) M3))
def fScript_readNumbers_2 : Nat → Int32 → Int32 → zM → Option (Unit × zM)
  | 0, _, _, _ => none
  | fuel + 1, v1, v2, M =>
  if v1 < v2 then
    (some ((), M))
  else
    (if ¬ (M 56 4) = 0 then
      (some ((), M))
    else
      (cl (fScript_skipBlanks  M) fun _ M1 =>
      if v2 < 2 then
        (fScript_readNumbers_59 (fScript_readNumbers_2 fuel) v1 v2 M1)
      else
        (if (M1 56 2) ≤ (M1 56 5) then
          (fScript_readNumbers_59 (fScript_readNumbers_2 fuel) v1 v2 M1)
        else
          (rd M1 57 200 (M1 56 5) fun x2 =>
          if ¬ x2 = 59 then
            (fScript_readNumbers_59 (fScript_readNumbers_2 fuel) v1 v2 M1)
          else
            (wf M1 56 5 ((M1 56 5) + 1) fun M3 =>
            some ((), M3))))))
def fScript_readNumbers (v1 : Int32) (M : zM) : Option (Unit × zM) :=
  fScript_readNumbers_2 FU v1 0 M
def fScript_readQuestion_74 (vs0 : Int32) (M : zM) : Option (Unit × zM) :=
  cl (fScript_readNumbers vs0 M) fun _ M1 =>
  wf M1 56 6 ((M1 56 6) + 1) fun M2 =>
  some ((), M2)
def fScript_readQuestion  (M : zM) : Option (Unit × zM) :=
  lt (M 56 5) fun u1_4 =>
  cl (fScript_readWord  M) fun r2 M1 =>
  if ¬ r2 = (-1) then
    (if (M1 56 6) < 12 then
      (wr M1 58 12 (M1 56 6) r2 fun M3 =>
      wr M3 61 12 (M3 56 6) 0 fun M4 =>
      if ¬ r2 = 3 then
        (fScript_readQuestion_74 2 M4)
      else
        (fScript_readQuestion_74 8 M4))
    else
      (cl (fScript_fail 4 u1_4 M1) fun _ M5 =>
      some ((), M5)))
  else
    (cl (fScript_fail 1 u1_4 M1) fun _ M6 =>
    some ((), M6))
def fScript_readAll_26 : Nat → Int32 → zM → Option (Int32 × zM)
  | 0, _, _ => none
  | fuel + 1, v1, M =>
  if (12 : Int32) < v1 then
    (wf M 56 2 0 fun M1 =>
    some ((M1 56 4), M1))
  else
    (if (M 56 2) ≤ (M 56 5) then
      (wf M 56 2 0 fun M2 =>
      some ((M2 56 4), M2))
    else
      (if ¬ (M 56 4) = 0 then
        (wf M 56 2 0 fun M3 =>
        some ((M3 56 4), M3))
      else
        (cl (fScript_readQuestion  M) fun _ M4 =>
        cl (fScript_skipBlanks  M4) fun _ M5 =>
        fScript_readAll_26 fuel (v1 + 1) M5)))
def fScript_readAll  (M : zM) : Option (Int32 × zM) :=
  wf M 56 5 0 fun M1 =>
  wf M1 56 4 0 fun M2 =>
  wf M2 56 3 (-1) fun M3 =>
  wf M3 56 6 0 fun M4 =>
  cl (fScript_skipBlanks  M4) fun _ M5 =>
  fScript_readAll_26 FU 0 M5
def fSmallNets_pairs (v0 : Int32) (M : zM) : Option (Int32 × zM) :=
  zdiv (v0 * (v0 - 1)) 2 fun z1 =>
  some (z1, M)
def fSmallNets_isOne (v0 : Int32) (v1 : Int32) (M : zM) : Option (Int32 × zM) :=
  if v0 < 1 then
    (zbl 0 (some (0, M)))
  else
    (if (5 : Int32) < v0 then
      (zbl 0 (some (0, M)))
    else
      (if v1 < 0 then
        (zbl 0 (some (0, M)))
      else
        (cl (fSmallNets_pairs v0 M) fun r2 M1 =>
        if (zshl 1 r2) ≤ v1 then
          (zbl 0 (some (0, M1)))
        else
          (zbl 1 (some (1, M1))))))
def fSmallNets_pairBit (v0 : Int32) (v1 : Int32) (M : zM) : Option (Int32 × zM) :=
  cl (fSmallNets_pairs (zmax v0 v1) M) fun r2 M1 =>
  some ((zshl 1 (r2 + (zmin v0 v1))), M1)
def fSmallNets_numberOf_4 : Nat → Int32 → Int32 → zM → Option (Int32 × zM)
  | 0, _, _, _ => none
  | fuel + 1, v1, v2, M =>
  if (M 1 1) ≤ v2 then
    (some (v1, M))
  else
    (rd M 2 30 v2 fun x1 =>
    rd M 3 30 v2 fun x2 =>
    cl (fSmallNets_pairBit x1 x2 M) fun r4 M3 =>
    lt (v1 ||| r4) fun u1_29 =>
    fSmallNets_numberOf_4 fuel u1_29 (v2 + 1) M3)
def fSmallNets_numberOf  (M : zM) : Option (Int32 × zM) :=
  fSmallNets_numberOf_4 FU 0 0 M
def fSmallNets_fits_73 (k3 : Int32 → Int32 → Int32 → Int32 → zM → Option (Int32 × zM)) (v1 : Int32) (v2 : Int32) (v3 : Int32) (v4 : Int32) (vs0 : Int32) (vs1 : Int32) (M : zM) : Option (Int32 × zM) :=
  if vs1 = vs0 then
    (k3 v1 v2 v3 (v4 + 1) M)
  else
    (zbl 0 (some (0, M)))
def fSmallNets_fits_43 (k3 : Int32 → Int32 → Int32 → Int32 → zM → Option (Int32 × zM)) (v1 : Int32) (v2 : Int32) (v3 : Int32) (v4 : Int32) (vs0 : Int32) (M : zM) : Option (Int32 × zM) :=
  rd M 54 5 v4 fun x1 =>
  rd M 54 5 v3 fun x2 =>
  cl (fSmallNets_pairBit x1 x2 M) fun r4 M3 =>
  if (v1 &&& r4) = 0 then
    (fSmallNets_fits_73 k3 v1 v2 v3 v4 0 vs0 M3)
  else
    (fSmallNets_fits_73 k3 v1 v2 v3 v4 1 vs0 M3)
def fSmallNets_fits_3 : Nat → Int32 → Int32 → Int32 → Int32 → zM → Option (Int32 × zM)
  | 0, _, _, _, _, _ => none
  | fuel + 1, v1, v2, v3, v4, M =>
  if v3 ≤ v4 then
    (zbl 1 (some (1, M)))
  else
    (rd M 54 5 v4 fun x1 =>
    rd M 54 5 v3 fun x2 =>
    if ¬ x1 = x2 then
      (cl (fSmallNets_pairBit v4 v3 M) fun r4 M3 =>
      if (v2 &&& r4) = 0 then
        (fSmallNets_fits_43 (fSmallNets_fits_3 fuel) v1 v2 v3 v4 0 M3)
      else
        (fSmallNets_fits_43 (fSmallNets_fits_3 fuel) v1 v2 v3 v4 1 M3))
    else
      (zbl 0 (some (0, M))))
def fSmallNets_fits (v1 : Int32) (v2 : Int32) (v3 : Int32) (M : zM) : Option (Int32 × zM) :=
  fSmallNets_fits_3 FU v1 v2 v3 0 M
def fSmallNets_seat_17 (slf : Int32 → Int32 → Int32 → Int32 → Int32 → zM → Option (Int32 × zM)) : Nat → Int32 → Int32 → Int32 → Int32 → Int32 → Int32 → zM → Option (Int32 × zM)
  | 0, _, _, _, _, _, _, _ => none
  | fuel + 1, v1, v2, v3, v4, v5, v6, M =>
  if v1 ≤ v6 then
    (zbl 0 (some (0, M)))
  else
    (wr M 54 5 v5 v6 fun M1 =>
    cl (fSmallNets_fits v2 v4 v5 M1) fun r3 M2 =>
    if r3 = 0 then
      (fSmallNets_seat_17 slf fuel v1 v2 v3 v4 v5 (v6 + 1) M2)
    else
      (cl (slf v1 v2 v3 v4 (v5 + 1) M2) fun r5 M4 =>
      if r5 = 0 then
        (fSmallNets_seat_17 slf fuel v1 v2 v3 v4 v5 (v6 + 1) M4)
      else
        (zbl 1 (some (1, M4)))))
def fSmallNets_seat_b (slf : Int32 → Int32 → Int32 → Int32 → Int32 → zM → Option (Int32 × zM)) (v1 : Int32) (v2 : Int32) (v3 : Int32) (v4 : Int32) (v5 : Int32) (M : zM) : Option (Int32 × zM) :=
  if v3 ≤ v5 then
    (zbl 1 (some (1, M)))
  else
    (if v5 < 5 then
      (fSmallNets_seat_17 slf FU v1 v2 v3 v4 v5 0 M)
    else
      (zbl 1 (some (1, M))))
def fSmallNets_seat : Nat → Int32 → Int32 → Int32 → Int32 → Int32 → zM → Option (Int32 × zM)
  | 0, _, _, _, _, _, _ => none
  | d + 1, v1, v2, v3, v4, v5, M => fSmallNets_seat_b (fSmallNets_seat d) v1 v2 v3 v4 v5 M
def fSmallNets_contains (v1 : Int32) (v2 : Int32) (v3 : Int32) (v4 : Int32) (M : zM) : Option (Int32 × zM) :=
  if v1 < v3 then
    (zbl 0 (some (0, M)))
  else
    (cl (fSmallNets_seat 8 v1 v2 v3 v4 0 M) fun r2 M1 =>
    if r2 = 0 then
      (zbl 0 (some (0, M1)))
    else
      (zbl 1 (some (1, M1))))
def fSmallNets_pairsWithin_11 (k4 : Int32 → Int32 → Int32 → zM → Option (Int32 × zM)) : Nat → Int32 → Int32 → Int32 → Int32 → zM → Option (Int32 × zM)
  | 0, _, _, _, _, _ => none
  | fuel + 1, v0, v1, v2, v3, M =>
  if v2 ≤ v3 then
    (k4 v0 v1 (v2 + 1) M)
  else
    (if ¬ (((zshr v0 v3) &&& (zshr v0 v2)) &&& 1) = 1 then
      (fSmallNets_pairsWithin_11 k4 fuel v0 v1 v2 (v3 + 1) M)
    else
      (cl (fSmallNets_pairBit v3 v2 M) fun r2 M1 =>
      lt (v1 ||| r2) fun u1_36 =>
      fSmallNets_pairsWithin_11 k4 fuel v0 u1_36 v2 (v3 + 1) M1))
def fSmallNets_pairsWithin_4 : Nat → Int32 → Int32 → Int32 → zM → Option (Int32 × zM)
  | 0, _, _, _, _ => none
  | fuel + 1, v0, v1, v2, M =>
  if (5 : Int32) ≤ v2 then
    (some (v1, M))
  else
    (fSmallNets_pairsWithin_11 (fSmallNets_pairsWithin_4 fuel) FU v0 v1 v2 0 M)
def fSmallNets_pairsWithin (v0 : Int32) (M : zM) : Option (Int32 × zM) :=
  fSmallNets_pairsWithin_4 FU v0 0 1 M
def fSmallNets_chooseGroups_7 : Nat → Int32 → Int32 → Int32 → zM → Option (Unit × zM)
  | 0, _, _, _, _ => none
  | fuel + 1, v1, v2, v3, M =>
  if (zshl 1 v2) ≤ v3 then
    (some ((), M))
  else
    (if (10 : Int32) ≤ (M 53 2) then
      (some ((), M))
    else
      (cl (fJ6_bitCount v3 M) fun r2 M1 =>
      if ¬ r2 = v1 then
        (fSmallNets_chooseGroups_7 fuel v1 v2 (v3 + 1) M1)
      else
        (cl (fSmallNets_pairsWithin v3 M1) fun r4 M3 =>
        wr M3 55 10 (M1 53 2) r4 fun M5 =>
        wf M5 53 2 ((M5 53 2) + 1) fun M6 =>
        fSmallNets_chooseGroups_7 fuel v1 v2 (v3 + 1) M6)))
def fSmallNets_chooseGroups (v1 : Int32) (v2 : Int32) (M : zM) : Option (Unit × zM) :=
  wf M 53 2 0 fun M1 =>
  fSmallNets_chooseGroups_7 FU v1 v2 0 M1
def fSmallNets_isUniversal_5 : Nat → Int32 → Int32 → Int32 → Int32 → zM → Option (Int32 × zM)
  | 0, _, _, _, _, _ => none
  | fuel + 1, v1, v2, v3, v4, M =>
  if (M 53 2) ≤ v4 then
    (cl (fSmallNets_pairs v1 M) fun r2 M1 =>
    if ¬ v3 = ((zshl 1 (r2 + 1)) - 1) then
      (zbl 0 (some (0, M1)))
    else
      (zbl 1 (some (1, M1))))
  else
    (rd M 55 10 v4 fun x3 =>
    cl (fJ6_bitCount (v2 &&& x3) M) fun r5 M4 =>
    lt (v3 ||| (zshl 1 r5)) fun u3_30 =>
    fSmallNets_isUniversal_5 fuel v1 v2 u3_30 (v4 + 1) M4)
def fSmallNets_isUniversal (v1 : Int32) (v2 : Int32) (M : zM) : Option (Int32 × zM) :=
  fSmallNets_isUniversal_5 FU v1 v2 0 0 M
def fSmallNets_countUniversal_11 : Nat → Int32 → Int32 → Int32 → Int32 → zM → Option (Int32 × zM)
  | 0, _, _, _, _, _ => none
  | fuel + 1, v1, v2, v3, v4, M =>
  cl (fSmallNets_pairs v2 M) fun r2 M1 =>
  if (zshl 1 r2) ≤ v4 then
    (some (v3, M1))
  else
    (cl (fSmallNets_isUniversal v1 v4 M1) fun r4 M3 =>
    if r4 = 0 then
      (lt (v3 + 0) fun u3_39 =>
      fSmallNets_countUniversal_11 fuel v1 v2 u3_39 (v4 + 1) M3)
    else
      (lt (v3 + 1) fun u3_39 =>
      fSmallNets_countUniversal_11 fuel v1 v2 u3_39 (v4 + 1) M3))
def fSmallNets_countUniversal (v1 : Int32) (v2 : Int32) (M : zM) : Option (Int32 × zM) :=
  cl (fSmallNets_chooseGroups v1 v2 M) fun _ M1 =>
  fSmallNets_countUniversal_11 FU v1 v2 0 0 M1
def fSmallNets_leastUniversal_8 : Nat → Int32 → Int32 → Int32 → zM → Option (Int32 × zM)
  | 0, _, _, _, _ => none
  | fuel + 1, v1, v2, v3, M =>
  cl (fSmallNets_pairs v2 M) fun r2 M1 =>
  if (zshl 1 r2) ≤ v3 then
    (some ((-1), M1))
  else
    (cl (fSmallNets_isUniversal v1 v3 M1) fun r4 M3 =>
    if r4 = 0 then
      (fSmallNets_leastUniversal_8 fuel v1 v2 (v3 + 1) M3)
    else
      (some (v3, M3)))
def fSmallNets_leastUniversal (v1 : Int32) (v2 : Int32) (M : zM) : Option (Int32 × zM) :=
  cl (fSmallNets_chooseGroups v1 v2 M) fun _ M1 =>
  fSmallNets_leastUniversal_8 FU v1 v2 0 M1
def fTree_depth (v1 : Int32) (M : zM) : Option (Int32 × zM) :=
  rd M 8 12 v1 fun x1 =>
  cl (fJ6_bitCount x1 M) fun r3 M2 =>
  some (r3, M2)
def fNN_net (v1 : Int32) (M : zM) : Option (Int32 × zM) :=
  if v1 < 1 then
    (some ((-1002), M))
  else
    (if v1 ≤ 12 then
      (cl (fNet_begin v1 M) fun _ M1 =>
      some (1, M1))
    else
      (some ((-1002), M)))
def fNN_post  (M : zM) : Option (Int32 × zM) :=
  if (M 1 0) < 12 then
    (cl (fNet_addPost  M) fun r2 M1 =>
    some (r2, M1))
  else
    (some ((-1004), M))
def fNN_line (v1 : Int32) (v2 : Int32) (M : zM) : Option (Int32 × zM) :=
  cl (fNet_hasPosts v1 v2 M) fun r2 M1 =>
  if ¬ r2 = 0 then
    (if ¬ v1 = v2 then
      (cl (fNet_joins v1 v2 M1) fun r4 M3 =>
      if r4 = 0 then
        (if (M3 1 1) < 30 then
          (cl (fNet_addLine v1 v2 M3) fun r6 M5 =>
          some (r6, M5))
        else
          (some ((-1004), M3)))
      else
        (some ((-1003), M3)))
    else
      (some ((-1002), M1)))
  else
    (some ((-1001), M1))
def fNN_strike (v1 : Int32) (M : zM) : Option (Int32 × zM) :=
  cl (fNet_hasLine v1 M) fun r2 M1 =>
  if ¬ r2 = 0 then
    (cl (fNet_removeLine v1 M1) fun _ M3 =>
    some ((M3 1 1), M3))
  else
    (some ((-1001), M1))
def fNN_kindsLearned_4 : Nat → Int32 → Int32 → zM → Option (Int32 × zM)
  | 0, _, _, _ => none
  | fuel + 1, v1, v2, M =>
  if (3 : Int32) ≤ v2 then
    (some (v1, M))
  else
    (rr zRX 32 3 v2 fun b1 =>
    if (M b1 0) = 0 then
      (lt (v1 + 0) fun u1_28 =>
      fNN_kindsLearned_4 fuel u1_28 (v2 + 1) M)
    else
      (lt (v1 + 1) fun u1_28 =>
      fNN_kindsLearned_4 fuel u1_28 (v2 + 1) M))
def fNN_kindsLearned  (M : zM) : Option (Int32 × zM) :=
  fNN_kindsLearned_4 FU 0 0 M
def fNN_count (v1 : Int32) (M : zM) : Option (Int32 × zM) :=
  zsw v1 0 [
    (some ((M 1 0), M)),
    (some ((M 1 1), M)),
    (cl (fTree_fresh  M) fun r2 M1 =>
    if r2 = 5 then
      (some (((M 1 0) - (M1 5 1)), M1))
    else none),
    (cl (fTree_fresh  M) fun r4 M3 =>
    if r4 = 5 then
      (some ((M3 5 1), M3))
    else none),
    (cl (fNN_kindsLearned  M) fun r6 M5 =>
    some (r6, M5)),
    (some ((M 56 2), M)),
    (some ((M 56 11), M)),
    (cl (fNet_mostLines  M) fun r8 M7 =>
    some (r8, M7))]
    (some ((-1002), M))
def fNN_told (v1 : Int32) (v2 : Int32) (M : zM) : Option (Int32 × zM) :=
  cl (fNet_hasPost v1 M) fun r2 M1 =>
  if ¬ r2 = 0 then
    (zsw v2 0 [
      (cl (fTree_fresh  M1) fun r4 M3 =>
      if r4 = 5 then
        (rd M3 6 12 v1 fun x5 =>
      some (x5, M3))
      else none),
      (cl (fTree_fresh  M1) fun r7 M6 =>
      if r7 = 5 then
        (rd M6 7 12 v1 fun x8 =>
      some (x8, M6))
      else none),
      (cl (fNet_degree v1 M1) fun r10 M9 =>
      some (r10, M9)),
      (cl (fTree_fresh  M1) fun r12 M11 =>
      if r12 = 5 then
        (cl (fTree_depth v1 M11) fun r14 M13 =>
      some (r14, M13))
      else none),
      (cl (fLabels_turnOf v1 M1) fun r16 M15 =>
      some (r16, M15)),
      (cl (fLabels_rankOf v1 M1) fun r18 M17 =>
      some (r18, M17))]
      (some ((-1002), M1)))
  else
    (some ((-1001), M1))
def fNN_lines (v1 : Int32) (v2 : Int32) (M : zM) : Option (Int32 × zM) :=
  cl (fNet_hasLine v1 M) fun r2 M1 =>
  if ¬ r2 = 0 then
    (zsw v2 0 [
      (rd M1 2 30 v1 fun x3 =>
      some (x3, M1)),
      (rd M1 3 30 v1 fun x4 =>
      some (x4, M1)),
      (cl (fTree_fresh  M1) fun r6 M5 =>
      if r6 = 5 then
        (some (((zshr (M5 5 2) v1) &&& 1), M5))
      else none),
      (cl (fTree_fresh  M1) fun r8 M7 =>
      if r8 = 5 then
        (rd M7 11 30 v1 fun x9 =>
      some (x9, M7))
      else none)]
      (some ((-1002), M1)))
  else
    (some ((-1001), M1))
def fNN_isNamedKind (v0 : Int32) (M : zM) : Option (Int32 × zM) :=
  if v0 < 0 then
    (zbl 0 (some (0, M)))
  else
    (if (3 : Int32) ≤ v0 then
      (zbl 0 (some (0, M)))
    else
      (zbl 1 (some (1, M))))
def fNN_name (v1 : Int32) (v2 : Int32) (v3 : Int32) (M : zM) : Option (Int32 × zM) :=
  cl (fNet_hasPost v2 M) fun r2 M1 =>
  if ¬ r2 = 0 then
    (if ¬ v1 = 3 then
      (cl (fNN_isNamedKind v1 M1) fun r4 M3 =>
      if ¬ r4 = 0 then
        (cl (fLabels_now v1 M3) fun r6 M5 =>
        if zNb r6 = true then
          (cl (fNames_number r6 v2 v3 M5) fun r8 M7 =>
        some (r8, M7))
        else none)
      else
        (some ((-1002), M3)))
    else
      (if ¬ v3 = (-1) then
        (if ¬ v3 = 0 then
          (some ((-1), M1))
        else
          (cl (fTree_fresh  M1) fun r10 M9 =>
          if r10 = 5 then
            (rd M9 8 12 v2 fun x11 =>
          some (x11, M9))
          else none))
      else
        (some (1, M1))))
  else
    (some ((-1001), M1))
def fNN_bitsOf_39 : Nat → Int32 → Int32 → Int32 → Int32 → zM → Option (Int32 × zM)
  | 0, _, _, _, _, _ => none
  | fuel + 1, v1, v2, v3, v4, M =>
  if v4 ≤ 0 then
    (cl (fLabels_now v1 M) fun r2 M1 =>
    if zNb r2 = true then
      (rd M1 (r2 + 1) 12 v2 fun x3 =>
    some ((v3 * x3), M1))
    else none)
  else
    (lt (zshr v4 1) fun u4_51 =>
    fNN_bitsOf_39 fuel v1 v2 (v3 + 1) u4_51 M)
def fNN_bitsOf (v1 : Int32) (v2 : Int32) (M : zM) : Option (Int32 × zM) :=
  if ¬ v1 = 3 then
    (lt (zshr ((M 1 0) - 1) 1) fun u4_37 =>
    fNN_bitsOf_39 FU v1 v2 1 u4_37 M)
  else
    (cl (fTree_fresh  M) fun r2 M1 =>
    if r2 = 5 then
      (some (((M 1 0) - (M1 5 1)), M1))
    else none)
def fNN_bits_40 : Nat → Int32 → Int32 → Int32 → Int32 → Int32 → Int32 → zM → Option (Int32 × zM)
  | 0, _, _, _, _, _, _, _ => none
  | fuel + 1, v1, v2, v3, v4, v5, v6, M =>
  if (M 1 0) ≤ v6 then
    (if ¬ v2 = 0 then
      (if ¬ v2 = 1 then
        (some (v5, M))
      else
        (some (v4, M)))
    else
      (some (v3, M)))
  else
    (cl (fNN_bitsOf v1 v6 M) fun r2 M1 =>
    lt (v4 + r2) fun u4_66 =>
    if r2 ≤ v3 then
      (fNN_bits_40 fuel v1 v2 v3 u4_66 v5 (v6 + 1) M1)
    else
      (fNN_bits_40 fuel v1 v2 r2 u4_66 v6 (v6 + 1) M1))
def fNN_bits_16 (v1 : Int32) (v2 : Int32) (M : zM) : Option (Int32 × zM) :=
  if v2 < 0 then
    (some ((-1002), M))
  else
    (if v2 ≤ 2 then
      (fNN_bits_40 FU v1 v2 (-1) 0 (-1) 0 M)
    else
      (some ((-1002), M)))
def fNN_bits (v1 : Int32) (v2 : Int32) (M : zM) : Option (Int32 × zM) :=
  cl (fNN_isNamedKind v1 M) fun r2 M1 =>
  if ¬ r2 = 0 then
    (fNN_bits_16 v1 v2 M1)
  else
    (if v1 = 3 then
      (fNN_bits_16 v1 v2 M1)
    else
      (some ((-1002), M1)))
def fNN_ask (v1 : Int32) (v2 : Int32) (v3 : Int32) (M : zM) : Option (Int32 × zM) :=
  cl (fNet_hasPosts v2 v3 M) fun r2 M1 =>
  if ¬ r2 = 0 then
    (cl (fNN_isNamedKind v1 M1) fun r4 M3 =>
    if ¬ r4 = 0 then
      (cl (fLabels_now v1 M3) fun r6 M5 =>
      if zNb r6 = true then
        (cl (fNames_reply r6 v2 v3 M5) fun r8 M7 =>
      some (r8, M7))
      else none)
    else
      (some ((-1002), M3)))
  else
    (some ((-1001), M1))
def fNN_parted (v1 : Int32) (v2 : Int32) (v3 : Int32) (M : zM) : Option (Int32 × zM) :=
  cl (fNet_hasPosts v1 v2 M) fun r2 M1 =>
  if r2 = 0 then
    (some ((-1001), M1))
  else
    (cl (fNet_hasLines v3 M1) fun r4 M3 =>
    if ¬ r4 = 0 then
      (cl (fJ6_bitCount v3 M3) fun r6 M5 =>
      if r6 ≤ 6 then
        (cl (fCuts_parts v1 v2 v3 M5) fun r8 M7 =>
        if r8 = 0 then
          (some (0, M7))
        else
          (some (1, M7)))
      else
        (some ((-1002), M5)))
    else
      (some ((-1001), M3)))
def fNN_learn (v1 : Int32) (M : zM) : Option (Int32 × zM) :=
  cl (fNN_isNamedKind v1 M) fun r2 M1 =>
  if ¬ r2 = 0 then
    (cl (fLabels_now v1 M1) fun r4 M3 =>
    if zNb r4 = true then
      (rr zRX 32 3 v1 fun b5 =>
    cl (fPage_unlike b5 r4 M3) fun r7 M6 =>
    cl (fJ6_bitCount r7 M6) fun r9 M8 =>
    rr zRX 32 3 v1 fun b10 =>
    cl (fPage_take b10 r4 M8) fun _ M11 =>
    some (r9, M11))
    else none)
  else
    (some ((-1002), M1))
def fNN_forge (v1 : Int32) (v2 : Int32) (v3 : Int32) (v4 : Int32) (M : zM) : Option (Int32 × zM) :=
  cl (fNN_isNamedKind v1 M) fun r2 M1 =>
  if ¬ r2 = 0 then
    (rr zRX 32 3 v1 fun b3 =>
    cl (fPage_has b3 v2 M1) fun r5 M4 =>
    if ¬ r5 = 0 then
      (cl (fNames_has (b3 + 2) v2 v3 M4) fun r7 M6 =>
      if r7 = 0 then
        (some ((-1002), M6))
      else
        (if v4 < 0 then
          (some ((-1002), M6))
        else
          (if v4 ≤ 99 then
            (cl (fNames_number (b3 + 2) v2 v3 M6) fun r9 M8 =>
            cl (fNames_put (b3 + 2) v2 v3 v4 M8) fun _ M10 =>
            some (r9, M10))
          else
            (some ((-1002), M6)))))
    else
      (some ((-1001), M4)))
  else
    (some ((-1002), M1))
def fNN_book (v1 : Int32) (v2 : Int32) (v3 : Int32) (M : zM) : Option (Int32 × zM) :=
  cl (fNN_isNamedKind v1 M) fun r2 M1 =>
  if ¬ r2 = 0 then
    (rr zRX 32 3 v1 fun b3 =>
    cl (fPage_has b3 v2 M1) fun r5 M4 =>
    if ¬ r5 = 0 then
      (if ¬ v3 = (-2) then
        (cl (fNames_number (b3 + 2) v2 v3 M4) fun r7 M6 =>
        some (r7, M6))
      else
        (rd M4 (b3 + 1) 12 v2 fun x8 =>
        some (x8, M4)))
    else
      (some ((-1001), M4)))
  else
    (some ((-1002), M1))
def fNN_answer (v1 : Int32) (v2 : Int32) (v3 : Int32) (M : zM) : Option (Int32 × zM) :=
  cl (fNN_isNamedKind v1 M) fun r2 M1 =>
  if ¬ r2 = 0 then
    (rr zRX 32 3 v1 fun b3 =>
    cl (fPage_has b3 v2 M1) fun r5 M4 =>
    if r5 = 0 then
      (some ((-1001), M4))
    else
      (cl (fPage_has b3 v3 M4) fun r7 M6 =>
      if ¬ r7 = 0 then
        (cl (fPage_isRight b3 v2 M6) fun r9 M8 =>
        if r9 = 0 then
          (some ((-1005), M8))
        else
          (cl (fPage_isRight b3 v3 M8) fun r11 M10 =>
          if ¬ r11 = 0 then
            (cl (fNames_reply (b3 + 2) v2 v3 M10) fun r13 M12 =>
            some (r13, M12))
          else
            (some ((-1005), M10))))
      else
        (some ((-1001), M6))))
  else
    (some ((-1002), M1))
def fNN_stale (v1 : Int32) (M : zM) : Option (Int32 × zM) :=
  cl (fNN_isNamedKind v1 M) fun r2 M1 =>
  if ¬ r2 = 0 then
    (rr zRX 32 3 v1 fun b3 =>
    if ¬ (M1 b3 0) = 0 then
      (rr zRX 32 3 v1 fun b4 =>
      cl (fLabels_now v1 M1) fun r6 M5 =>
      if zNb r6 = true then
        (cl (fPage_unlike b4 r6 M5) fun r8 M7 =>
      some (r8, M7))
      else none)
    else
      (some ((-1003), M1)))
  else
    (some ((-1002), M1))
def fNN_damaged (v1 : Int32) (M : zM) : Option (Int32 × zM) :=
  cl (fNN_isNamedKind v1 M) fun r2 M1 =>
  if ¬ r2 = 0 then
    (rr zRX 32 3 v1 fun b3 =>
    if ¬ (M1 b3 0) = 0 then
      (rr zRX 32 3 v1 fun b4 =>
      cl (fPage_wrongChecks b4 M1) fun r6 M5 =>
      some (r6, M5))
    else
      (some ((-1003), M1)))
  else
    (some ((-1002), M1))
def fNN_next (v1 : Int32) (v2 : Int32) (M : zM) : Option (Int32 × zM) :=
  cl (fNet_hasPosts v1 v2 M) fun r2 M1 =>
  if r2 = 0 then
    (some ((-1001), M1))
  else
    (cl (fParcels_step v1 v2 M1) fun r4 M3 =>
    some (r4, M3))
def fNN_goes (v1 : Int32) (v2 : Int32) (M : zM) : Option (Int32 × zM) :=
  cl (fNet_hasPosts v1 v2 M) fun r2 M1 =>
  if r2 = 0 then
    (some ((-1001), M1))
  else
    (cl (fParcels_length v1 v2 M1) fun r4 M3 =>
    some (r4, M3))
def fNN_stretch (v1 : Int32) (M : zM) : Option (Int32 × zM) :=
  zsw v1 0 [
    (cl (fParcels_fresh  M) fun r2 M1 =>
    if r2 = 48 then
      (some ((M1 48 3), M1))
    else none),
    (cl (fParcels_fresh  M) fun r4 M3 =>
    if r4 = 48 then
      (some ((M3 48 4), M3))
    else none),
    (cl (fParcels_fresh  M) fun r6 M5 =>
    if r6 = 48 then
      (some ((M5 48 5), M5))
    else none),
    (cl (fParcels_fresh  M) fun r8 M7 =>
    if r8 = 48 then
      (some ((M7 48 6), M7))
    else none)]
    (some ((-1002), M))
def fNN_cut (v1 : Int32) (v2 : Int32) (M : zM) : Option (Int32 × zM) :=
  cl (fNet_hasPosts v1 v2 M) fun r2 M1 =>
  if ¬ r2 = 0 then
    (if ¬ v1 = v2 then
      (cl (fCuts_fewest v1 v2 M1) fun r4 M3 =>
      some (r4, M3))
    else
      (some ((-1003), M1)))
  else
    (some ((-1001), M1))
def fNN_ways (v1 : Int32) (v2 : Int32) (M : zM) : Option (Int32 × zM) :=
  cl (fNet_hasPosts v1 v2 M) fun r2 M1 =>
  if ¬ r2 = 0 then
    (if ¬ v1 = v2 then
      (cl (fCuts_separateWays v1 v2 M1) fun r4 M3 =>
      some (r4, M3))
    else
      (some ((-1003), M1)))
  else
    (some ((-1001), M1))
def fNN_holds (v1 : Int32) (v2 : Int32) (v3 : Int32) (v4 : Int32) (M : zM) : Option (Int32 × zM) :=
  cl (fSmallNets_isOne v1 v2 M) fun r2 M1 =>
  if r2 = 0 then
    (some ((-1002), M1))
  else
    (cl (fSmallNets_isOne v3 v4 M1) fun r4 M3 =>
    if ¬ r4 = 0 then
      (cl (fSmallNets_contains v1 v2 v3 v4 M3) fun r6 M5 =>
      if r6 = 0 then
        (some (0, M5))
      else
        (some (1, M5)))
    else
      (some ((-1002), M3)))
def fNN_universal (v1 : Int32) (v2 : Int32) (v3 : Int32) (M : zM) : Option (Int32 × zM) :=
  if v1 < 1 then
    (some ((-1002), M))
  else
    (if (3 : Int32) < v1 then
      (some ((-1002), M))
    else
      (if v2 < 1 then
        (some ((-1002), M))
      else
        (if (5 : Int32) < v2 then
          (some ((-1002), M))
        else
          (if v3 < 0 then
            (some ((-1002), M))
          else
            (if v3 ≤ 1 then
              (if ¬ v3 = 0 then
                (cl (fSmallNets_leastUniversal v1 v2 M) fun r2 M1 =>
                some (r2, M1))
              else
                (cl (fSmallNets_countUniversal v1 v2 M) fun r4 M3 =>
                some (r4, M3)))
            else
              (some ((-1002), M)))))))
def fNN_small  (M : zM) : Option (Int32 × zM) :=
  if (M 1 0) ≤ 5 then
    (cl (fSmallNets_numberOf  M) fun r2 M1 =>
    some (r2, M1))
  else
    (some ((-1003), M))
def fNN_feed (v1 : Int32) (j2 : Int64) (M : zM) : Option (Int32 × zM) :=
  if v1 < 1 then
    (some ((-1002), M))
  else
    (if v1 ≤ 8 then
      (if ((M 56 2) + v1) ≤ 200 then
        (cl (fScript_append v1 j2 M) fun r2 M1 =>
        some (r2, M1))
      else
        (some ((-1004), M)))
    else
      (some ((-1002), M)))
def fNN_replyTo (v1 : Int32) (v2 : Int32) (v3 : Int32) (v4 : Int32) (M : zM) : Option (Int32 × zM) :=
  if ¬ v1 = 4 then
    (if ¬ v1 = 3 then
      (cl (fNN_isNamedKind v1 M) fun r2 M1 =>
      if r2 = 0 then
        (some ((-1), M1))
      else
        (cl (fLabels_now v1 M1) fun r4 M3 =>
        if zNb r4 = true then
          (cl (fNames_reply r4 v2 v3 M3) fun r6 M5 =>
        some (r6, M5))
        else none))
    else
      (cl (fCuts_parts v2 v3 v4 M) fun r8 M7 =>
      if r8 = 0 then
        (some (0, M7))
      else
        (some (1, M7))))
  else
    (cl (fParcels_step v2 v3 M) fun r10 M9 =>
    some (r10, M9))
def fNN_read_33 : Nat → Int32 → zM → Option (Int32 × zM)
  | 0, _, _ => none
  | fuel + 1, v2, M =>
  if (M 56 6) ≤ v2 then
    (some ((M 56 11), M))
  else
    (rd M 58 12 v2 fun x1 =>
    rd M 59 12 v2 fun x2 =>
    rd M 60 12 v2 fun x3 =>
    rd M 61 12 v2 fun x4 =>
    cl (fNN_replyTo x1 x2 x3 x4 M) fun r6 M5 =>
    wr M5 62 12 v2 r6 fun M7 =>
    fNN_read_33 fuel (v2 + 1) M7)
def fNN_read  (M : zM) : Option (Int32 × zM) :=
  cl (fScript_readAll  M) fun r2 M1 =>
  if r2 = 0 then
    (wf M1 56 11 (M1 56 6) fun M3 =>
    fNN_read_33 FU 0 M3)
  else
    (some (((-10) - r2), M1))
def fNN_fault  (M : zM) : Option (Int32 × zM) :=
  some ((M 56 3), M)
def fNN_said (v1 : Int32) (M : zM) : Option (Int32 × zM) :=
  if v1 < 0 then
    (some ((-1001), M))
  else
    (if v1 < (M 56 11) then
      (rd M 62 12 v1 fun x1 =>
      some (x1, M))
    else
      (some ((-1001), M)))
