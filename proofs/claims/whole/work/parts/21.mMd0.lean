theorem dX10_in_0 : decode cX10_in 0 = .ok (.lload_n 0, 1) := by decide +kernel
theorem dX10_in_1 : decode cX10_in 1 = .ok (.lload_n 2, 1) := by decide +kernel
theorem dX10_in_2 : decode cX10_in 2 = .ok (.lcmp, 1) := by decide +kernel
theorem dX10_in_3 : decode cX10_in 3 = .ok (.ifCond .lt 14, 3) := by decide +kernel
theorem dX10_in_6 : decode cX10_in 6 = .ok (.lload_n 0, 1) := by decide +kernel
theorem dX10_in_7 : decode cX10_in 7 = .ok (.lload 4, 2) := by decide +kernel
theorem dX10_in_9 : decode cX10_in 9 = .ok (.lcmp, 1) := by decide +kernel
theorem dX10_in_10 : decode cX10_in 10 = .ok (.ifCond .gt 7, 3) := by decide +kernel
theorem dX10_in_13 : decode cX10_in 13 = .ok (.iconst 1, 1) := by decide +kernel
theorem dX10_in_14 : decode cX10_in 14 = .ok (.goto 4, 3) := by decide +kernel
theorem dX10_in_17 : decode cX10_in 17 = .ok (.iconst 0, 1) := by decide +kernel
theorem dX10_in_18 : decode cX10_in 18 = .ok (.ireturn, 1) := by decide +kernel
theorem wMd_in (l : Launch) (G : zG) (j0 : Int64) (j2 : Int64) (j4 : Int64) (M : zM) : zV eI l G zLY zRY 1 yX10_in cX10_in 6 (some .boolean) 0 [(0, .long j0), (2, .long j2), (4, .long j4)] [] M (fMd_in j0 j2 j4 M) := by
  rw [fMd_in]
  refine v_lload_n (pc := 0) dX10_in_0 rfl ?_
  refine v_lload_n (pc := 1) dX10_in_1 rfl ?_
  refine v_lcmp (pc := 2) dX10_in_2 ?_
  refine v_if_lt (pc := 3) 17 dX10_in_3 (by decide) ?_ ?_
  · refine v_iconst (pc := 17) 0 dX10_in_17 (by decide) ?_
    exact v_zret (pc := 18) dX10_in_18
  · refine v_lload_n (pc := 6) dX10_in_6 rfl ?_
    refine v_lload (pc := 7) dX10_in_7 rfl ?_
    refine v_lcmp (pc := 9) dX10_in_9 ?_
    refine v_if_gt (pc := 10) 17 dX10_in_10 (by decide) ?_ ?_
    · refine v_iconst (pc := 17) 0 dX10_in_17 (by decide) ?_
      exact v_zret (pc := 18) dX10_in_18
    · refine v_iconst (pc := 13) 1 dX10_in_13 (by decide) ?_
      refine v_goto (pc := 14) 18 dX10_in_14 (by decide) ?_
      exact v_zret (pc := 18) dX10_in_18
theorem cMd_in (l : Launch) (G : zG) (j0 : Int64) (j2 : Int64) (j4 : Int64) (M : zM) : zC eI l G zLY zRY 1 yX10_in cX10_in 6 (some .boolean) [.long j0, .long j2, .long j4] M (fMd_in j0 j2 j4 M) := zC.of (by decide) (Nat.le_of_ble_eq_true rfl) (v_sub (wMd_in l G j0 j2 j4 M) rfl)
theorem dX10_bit_0 : decode cX10_bit 0 = .ok (.iload_n 0, 1) := by decide +kernel
theorem dX10_bit_1 : decode cX10_bit 1 = .ok (.ifCond .eq 7, 3) := by decide +kernel
theorem dX10_bit_4 : decode cX10_bit 4 = .ok (.iconst 1, 1) := by decide +kernel
theorem dX10_bit_5 : decode cX10_bit 5 = .ok (.goto 4, 3) := by decide +kernel
theorem dX10_bit_8 : decode cX10_bit 8 = .ok (.iconst 0, 1) := by decide +kernel
theorem dX10_bit_9 : decode cX10_bit 9 = .ok (.ireturn, 1) := by decide +kernel
theorem wMd_bit (l : Launch) (G : zG) (v0 : Int32) (M : zM) : zV eI l G zLY zRY 1 yX10_bit cX10_bit 1 (some .int) 0 [(0, .int v0)] [] M (fMd_bit v0 M) := by
  rw [fMd_bit]
  refine v_iload_n (pc := 0) dX10_bit_0 rfl ?_
  refine v_if_eq (pc := 1) 8 dX10_bit_1 (by decide) ?_ ?_
  · refine v_iconst (pc := 8) 0 dX10_bit_8 (by decide) ?_
    exact v_iret (pc := 9) dX10_bit_9
  · refine v_iconst (pc := 4) 1 dX10_bit_4 (by decide) ?_
    refine v_goto (pc := 5) 9 dX10_bit_5 (by decide) ?_
    exact v_iret (pc := 9) dX10_bit_9
theorem cMd_bit (l : Launch) (G : zG) (v0 : Int32) (M : zM) : zC eI l G zLY zRY 1 yX10_bit cX10_bit 1 (some .int) [.int v0] M (fMd_bit v0 M) := zC.of (by decide) (Nat.le_of_ble_eq_true rfl) (v_sub (wMd_bit l G v0 M) rfl)
theorem dX10_ones_0 : decode cX10_ones 0 = .ok (.iconst 0, 1) := by decide +kernel
theorem dX10_ones_1 : decode cX10_ones 1 = .ok (.istore_n 1, 1) := by decide +kernel
theorem dX10_ones_2 : decode cX10_ones 2 = .ok (.iconst 0, 1) := by decide +kernel
theorem dX10_ones_3 : decode cX10_ones 3 = .ok (.istore_n 2, 1) := by decide +kernel
theorem dX10_ones_4 : decode cX10_ones 4 = .ok (.iload_n 2, 1) := by decide +kernel
theorem dX10_ones_5 : decode cX10_ones 5 = .ok (.bipush 31, 2) := by decide +kernel
theorem dX10_ones_7 : decode cX10_ones 7 = .ok (.if_icmp .ge 17, 3) := by decide +kernel
theorem dX10_ones_10 : decode cX10_ones 10 = .ok (.iload_n 1, 1) := by decide +kernel
theorem dX10_ones_11 : decode cX10_ones 11 = .ok (.iload_n 0, 1) := by decide +kernel
theorem dX10_ones_12 : decode cX10_ones 12 = .ok (.iload_n 2, 1) := by decide +kernel
theorem dX10_ones_13 : decode cX10_ones 13 = .ok (.ishr, 1) := by decide +kernel
theorem dX10_ones_14 : decode cX10_ones 14 = .ok (.iconst 1, 1) := by decide +kernel
theorem dX10_ones_15 : decode cX10_ones 15 = .ok (.iand, 1) := by decide +kernel
theorem dX10_ones_16 : decode cX10_ones 16 = .ok (.iadd, 1) := by decide +kernel
theorem dX10_ones_17 : decode cX10_ones 17 = .ok (.istore_n 1, 1) := by decide +kernel
theorem dX10_ones_18 : decode cX10_ones 18 = .ok (.iinc 2 1, 3) := by decide +kernel
theorem dX10_ones_21 : decode cX10_ones 21 = .ok (.goto (-17), 3) := by decide +kernel
theorem dX10_ones_24 : decode cX10_ones 24 = .ok (.iload_n 1, 1) := by decide +kernel
theorem dX10_ones_25 : decode cX10_ones 25 = .ok (.ireturn, 1) := by decide +kernel
theorem wMd_ones_4 (l : Launch) (G : zG) : ∀ (fuel : Nat) (v0 : Int32) (v1 : Int32) (v2 : Int32) (M : zM), zV eI l G zLY zRY 1 yX10_ones cX10_ones 3 (some .int) 4 [(0, .int v0), (1, .int v1), (2, .int v2)] [] M (fMd_ones_4 fuel v0 v1 v2 M) := by
  intro fuel
  induction fuel with
  | zero => intro v0 v1 v2 M; exact v_none
  | succ fuel ih =>
    intro v0 v1 v2 M
    rw [fMd_ones_4]
    refine v_iload_n (pc := 4) dX10_ones_4 rfl ?_
    refine v_bipush (pc := 5) 31 dX10_ones_5 (by decide) ?_
    refine v_icmp_ge (pc := 7) 24 dX10_ones_7 (by decide) ?_ ?_
    · refine v_iload_n (pc := 24) dX10_ones_24 rfl ?_
      exact v_iret (pc := 25) dX10_ones_25
    · refine v_iload_n (pc := 10) dX10_ones_10 rfl ?_
      refine v_iload_n (pc := 11) dX10_ones_11 rfl ?_
      refine v_iload_n (pc := 12) dX10_ones_12 rfl ?_
      refine v_ishr (pc := 13) dX10_ones_13 ?_
      refine v_iconst (pc := 14) 1 dX10_ones_14 (by decide) ?_
      refine v_iand (pc := 15) dX10_ones_15 ?_
      refine v_iadd (pc := 16) dX10_ones_16 ?_
      refine v_istore_nL (pc := 17) dX10_ones_17 (by decide) (fun u1_17 => ?_)
      refine v_iinc (pc := 18) 1 dX10_ones_18 rfl (by decide) (by decide) ?_
      refine v_goto (pc := 21) 4 dX10_ones_21 (by decide) ?_
      exact v_sub (ih v0 u1_17 (v2 + 1) M) rfl
theorem wMd_ones (l : Launch) (G : zG) (v0 : Int32) (M : zM) : zV eI l G zLY zRY 1 yX10_ones cX10_ones 3 (some .int) 0 [(0, .int v0)] [] M (fMd_ones v0 M) := by
  rw [fMd_ones]
  refine v_iconst (pc := 0) 0 dX10_ones_0 (by decide) ?_
  refine v_istore_n (pc := 1) dX10_ones_1 (by decide) ?_
  refine v_iconst (pc := 2) 0 dX10_ones_2 (by decide) ?_
  refine v_istore_n (pc := 3) dX10_ones_3 (by decide) ?_
  exact v_sub (wMd_ones_4 l G FU v0 0 0 M) rfl
theorem cMd_ones (l : Launch) (G : zG) (v0 : Int32) (M : zM) : zC eI l G zLY zRY 1 yX10_ones cX10_ones 3 (some .int) [.int v0] M (fMd_ones v0 M) := zC.of (by decide) (Nat.le_of_ble_eq_true rfl) (v_sub (wMd_ones l G v0 M) rfl)
theorem dX10_noPost_0 : decode cX10_noPost 0 = .ok (.iload_n 1, 1) := by decide +kernel
theorem dX10_noPost_1 : decode cX10_noPost 1 = .ok (.i2l, 1) := by decide +kernel
theorem dX10_noPost_2 : decode cX10_noPost 2 = .ok (.lconst 0, 1) := by decide +kernel
theorem dX10_noPost_3 : decode cX10_noPost 3 = .ok (.aload_n 0, 1) := by decide +kernel
theorem dX10_noPost_4 : decode cX10_noPost 4 = .ok (.getfield 99, 3) := by decide +kernel
theorem dX10_noPost_7 : decode cX10_noPost 7 = .ok (.iconst 1, 1) := by decide +kernel
theorem dX10_noPost_8 : decode cX10_noPost 8 = .ok (.isub, 1) := by decide +kernel
theorem dX10_noPost_9 : decode cX10_noPost 9 = .ok (.i2l, 1) := by decide +kernel
theorem dX10_noPost_10 : decode cX10_noPost 10 = .ok (.invokestatic 102, 3) := by decide +kernel
theorem dX10_noPost_13 : decode cX10_noPost 13 = .ok (.ifCond .ne 7, 3) := by decide +kernel
theorem dX10_noPost_16 : decode cX10_noPost 16 = .ok (.iconst 1, 1) := by decide +kernel
theorem dX10_noPost_17 : decode cX10_noPost 17 = .ok (.goto 4, 3) := by decide +kernel
theorem dX10_noPost_20 : decode cX10_noPost 20 = .ok (.iconst 0, 1) := by decide +kernel
theorem dX10_noPost_21 : decode cX10_noPost 21 = .ok (.ireturn, 1) := by decide +kernel
theorem wMd_noPost (l : Launch) (G : zG) (v1 : Int32) (M : zM) : zV eI l G zLY zRY 2 yX10_noPost cX10_noPost 2 (some .boolean) 0 [(0, .ref 0), (1, .int v1)] [] M (fMd_noPost v1 M) := by
  rw [fMd_noPost]
  refine v_iload_n (pc := 0) dX10_noPost_0 rfl ?_
  refine v_i2l (pc := 1) dX10_noPost_1 ?_
  refine v_lconst (pc := 2) 0 dX10_noPost_2 (by decide) ?_
  refine v_aload_n (pc := 3) dX10_noPost_3 rfl ?_
  refine v_getI (pc := 4) (q := 0) zk10 ly_0 rfl tw_1026 dX10_noPost_4 ?_
  refine v_iconst (pc := 7) 1 dX10_noPost_7 (by decide) ?_
  refine v_isub (pc := 8) dX10_noPost_8 ?_
  refine v_i2l (pc := 9) dX10_noPost_9 ?_
  refine v_callS (pc := 10) (As := [.long v1.toInt64, .long 0, .long (((M 0 0) - 1).toInt64)]) (cMd_in l G v1.toInt64 0 (((M 0 0) - 1).toInt64) M) zc_X10_in tw_1153 (by decide) (Nat.le_of_ble_eq_true rfl) dX10_noPost_10 (fun r2 M1 => ?_)
  refine v_if_ne (pc := 13) 20 dX10_noPost_13 (by decide) ?_ ?_
  · refine v_iconst (pc := 20) 0 dX10_noPost_20 (by decide) ?_
    exact v_zret (pc := 21) dX10_noPost_21
  · refine v_iconst (pc := 16) 1 dX10_noPost_16 (by decide) ?_
    refine v_goto (pc := 17) 21 dX10_noPost_17 (by decide) ?_
    exact v_zret (pc := 21) dX10_noPost_21
theorem cMd_noPost (l : Launch) (G : zG) (v1 : Int32) (M : zM) : zC eI l G zLY zRY 2 yX10_noPost cX10_noPost 2 (some .boolean) [.ref 0, .int v1] M (fMd_noPost v1 M) := zC.of (by decide) (Nat.le_of_ble_eq_true rfl) (v_sub (wMd_noPost l G v1 M) rfl)
theorem dX10_noLine_0 : decode cX10_noLine 0 = .ok (.iload_n 1, 1) := by decide +kernel
theorem dX10_noLine_1 : decode cX10_noLine 1 = .ok (.i2l, 1) := by decide +kernel
theorem dX10_noLine_2 : decode cX10_noLine 2 = .ok (.lconst 0, 1) := by decide +kernel
theorem dX10_noLine_3 : decode cX10_noLine 3 = .ok (.aload_n 0, 1) := by decide +kernel
theorem dX10_noLine_4 : decode cX10_noLine 4 = .ok (.getfield 106, 3) := by decide +kernel
theorem dX10_noLine_7 : decode cX10_noLine 7 = .ok (.iconst 1, 1) := by decide +kernel
theorem dX10_noLine_8 : decode cX10_noLine 8 = .ok (.isub, 1) := by decide +kernel
theorem dX10_noLine_9 : decode cX10_noLine 9 = .ok (.i2l, 1) := by decide +kernel
theorem dX10_noLine_10 : decode cX10_noLine 10 = .ok (.invokestatic 102, 3) := by decide +kernel
theorem dX10_noLine_13 : decode cX10_noLine 13 = .ok (.ifCond .ne 7, 3) := by decide +kernel
theorem dX10_noLine_16 : decode cX10_noLine 16 = .ok (.iconst 1, 1) := by decide +kernel
theorem dX10_noLine_17 : decode cX10_noLine 17 = .ok (.goto 4, 3) := by decide +kernel
theorem dX10_noLine_20 : decode cX10_noLine 20 = .ok (.iconst 0, 1) := by decide +kernel
theorem dX10_noLine_21 : decode cX10_noLine 21 = .ok (.ireturn, 1) := by decide +kernel
theorem wMd_noLine (l : Launch) (G : zG) (v1 : Int32) (M : zM) : zV eI l G zLY zRY 2 yX10_noLine cX10_noLine 2 (some .boolean) 0 [(0, .ref 0), (1, .int v1)] [] M (fMd_noLine v1 M) := by
  rw [fMd_noLine]
  refine v_iload_n (pc := 0) dX10_noLine_0 rfl ?_
  refine v_i2l (pc := 1) dX10_noLine_1 ?_
  refine v_lconst (pc := 2) 0 dX10_noLine_2 (by decide) ?_
  refine v_aload_n (pc := 3) dX10_noLine_3 rfl ?_
  refine v_getI (pc := 4) (q := 1) zk10 ly_0 rfl tw_1027 dX10_noLine_4 ?_
  refine v_iconst (pc := 7) 1 dX10_noLine_7 (by decide) ?_
  refine v_isub (pc := 8) dX10_noLine_8 ?_
  refine v_i2l (pc := 9) dX10_noLine_9 ?_
  refine v_callS (pc := 10) (As := [.long v1.toInt64, .long 0, .long (((M 0 1) - 1).toInt64)]) (cMd_in l G v1.toInt64 0 (((M 0 1) - 1).toInt64) M) zc_X10_in tw_1153 (by decide) (Nat.le_of_ble_eq_true rfl) dX10_noLine_10 (fun r2 M1 => ?_)
  refine v_if_ne (pc := 13) 20 dX10_noLine_13 (by decide) ?_ ?_
  · refine v_iconst (pc := 20) 0 dX10_noLine_20 (by decide) ?_
    exact v_zret (pc := 21) dX10_noLine_21
  · refine v_iconst (pc := 16) 1 dX10_noLine_16 (by decide) ?_
    refine v_goto (pc := 17) 21 dX10_noLine_17 (by decide) ?_
    exact v_zret (pc := 21) dX10_noLine_21
theorem cMd_noLine (l : Launch) (G : zG) (v1 : Int32) (M : zM) : zC eI l G zLY zRY 2 yX10_noLine cX10_noLine 2 (some .boolean) [.ref 0, .int v1] M (fMd_noLine v1 M) := zC.of (by decide) (Nat.le_of_ble_eq_true rfl) (v_sub (wMd_noLine l G v1 M) rfl)
theorem dX10_lineOf_0 : decode cX10_lineOf 0 = .ok (.iconst 0, 1) := by decide +kernel
theorem dX10_lineOf_1 : decode cX10_lineOf 1 = .ok (.istore_n 3, 1) := by decide +kernel
theorem dX10_lineOf_2 : decode cX10_lineOf 2 = .ok (.iload_n 3, 1) := by decide +kernel
theorem dX10_lineOf_3 : decode cX10_lineOf 3 = .ok (.aload_n 0, 1) := by decide +kernel
theorem dX10_lineOf_4 : decode cX10_lineOf 4 = .ok (.getfield 106, 3) := by decide +kernel
theorem dX10_lineOf_7 : decode cX10_lineOf 7 = .ok (.if_icmp .ge 51, 3) := by decide +kernel
theorem dX10_lineOf_10 : decode cX10_lineOf 10 = .ok (.aload_n 0, 1) := by decide +kernel
theorem dX10_lineOf_11 : decode cX10_lineOf 11 = .ok (.getfield 7, 3) := by decide +kernel
theorem dX10_lineOf_14 : decode cX10_lineOf 14 = .ok (.iload_n 3, 1) := by decide +kernel
theorem dX10_lineOf_15 : decode cX10_lineOf 15 = .ok (.iaload, 1) := by decide +kernel
theorem dX10_lineOf_16 : decode cX10_lineOf 16 = .ok (.iload_n 1, 1) := by decide +kernel
theorem dX10_lineOf_17 : decode cX10_lineOf 17 = .ok (.if_icmp .ne 13, 3) := by decide +kernel
theorem dX10_lineOf_20 : decode cX10_lineOf 20 = .ok (.aload_n 0, 1) := by decide +kernel
theorem dX10_lineOf_21 : decode cX10_lineOf 21 = .ok (.getfield 13, 3) := by decide +kernel
theorem dX10_lineOf_24 : decode cX10_lineOf 24 = .ok (.iload_n 3, 1) := by decide +kernel
theorem dX10_lineOf_25 : decode cX10_lineOf 25 = .ok (.iaload, 1) := by decide +kernel
theorem dX10_lineOf_26 : decode cX10_lineOf 26 = .ok (.iload_n 2, 1) := by decide +kernel
theorem dX10_lineOf_27 : decode cX10_lineOf 27 = .ok (.if_icmp .eq 23, 3) := by decide +kernel
theorem dX10_lineOf_30 : decode cX10_lineOf 30 = .ok (.aload_n 0, 1) := by decide +kernel
theorem dX10_lineOf_31 : decode cX10_lineOf 31 = .ok (.getfield 7, 3) := by decide +kernel
theorem dX10_lineOf_34 : decode cX10_lineOf 34 = .ok (.iload_n 3, 1) := by decide +kernel
theorem dX10_lineOf_35 : decode cX10_lineOf 35 = .ok (.iaload, 1) := by decide +kernel
theorem dX10_lineOf_36 : decode cX10_lineOf 36 = .ok (.iload_n 2, 1) := by decide +kernel
theorem dX10_lineOf_37 : decode cX10_lineOf 37 = .ok (.if_icmp .ne 15, 3) := by decide +kernel
theorem dX10_lineOf_40 : decode cX10_lineOf 40 = .ok (.aload_n 0, 1) := by decide +kernel
theorem dX10_lineOf_41 : decode cX10_lineOf 41 = .ok (.getfield 13, 3) := by decide +kernel
theorem dX10_lineOf_44 : decode cX10_lineOf 44 = .ok (.iload_n 3, 1) := by decide +kernel
theorem dX10_lineOf_45 : decode cX10_lineOf 45 = .ok (.iaload, 1) := by decide +kernel
theorem dX10_lineOf_46 : decode cX10_lineOf 46 = .ok (.iload_n 1, 1) := by decide +kernel
theorem dX10_lineOf_47 : decode cX10_lineOf 47 = .ok (.if_icmp .ne 5, 3) := by decide +kernel
theorem dX10_lineOf_50 : decode cX10_lineOf 50 = .ok (.iload_n 3, 1) := by decide +kernel
theorem dX10_lineOf_51 : decode cX10_lineOf 51 = .ok (.ireturn, 1) := by decide +kernel
theorem dX10_lineOf_52 : decode cX10_lineOf 52 = .ok (.iinc 3 1, 3) := by decide +kernel
theorem dX10_lineOf_55 : decode cX10_lineOf 55 = .ok (.goto (-53), 3) := by decide +kernel
theorem dX10_lineOf_58 : decode cX10_lineOf 58 = .ok (.iconst (-1), 1) := by decide +kernel
theorem dX10_lineOf_59 : decode cX10_lineOf 59 = .ok (.ireturn, 1) := by decide +kernel
theorem wMd_lineOf_30 (l : Launch) (G : zG) (k2 : Int32 → Int32 → Int32 → zM → Option (Int32 × zM)) (hk2 : ∀ (v1 : Int32) (v2 : Int32) (v3 : Int32) (M : zM), zV eI l G zLY zRY 1 yX10_lineOf cX10_lineOf 4 (some .int) 2 [(0, .ref 0), (1, .int v1), (2, .int v2), (3, .int v3)] [] M (k2 v1 v2 v3 M)) (v1 : Int32) (v2 : Int32) (v3 : Int32) (M : zM) : zV eI l G zLY zRY 1 yX10_lineOf cX10_lineOf 4 (some .int) 30 [(0, .ref 0), (1, .int v1), (2, .int v2), (3, .int v3)] [] M (fMd_lineOf_30 k2 v1 v2 v3 M) := by
  rw [fMd_lineOf_30]
  refine v_aload_n (pc := 30) dX10_lineOf_30 rfl ?_
  refine v_getR (pc := 31) (q := 2) zk10 ly_0 rfl ry_0_2 tw_1028 dX10_lineOf_31 ?_
  refine v_iload_n (pc := 34) dX10_lineOf_34 rfl ?_
  refine v_iald (pc := 35) ly_1 dX10_lineOf_35 (fun x1 => ?_)
  refine v_iload_n (pc := 36) dX10_lineOf_36 rfl ?_
  refine v_icmp_ne (pc := 37) 52 dX10_lineOf_37 (by decide) ?_ ?_
  · refine v_iinc (pc := 52) 1 dX10_lineOf_52 rfl (by decide) (by decide) ?_
    refine v_goto (pc := 55) 2 dX10_lineOf_55 (by decide) ?_
    exact v_sub (hk2 v1 v2 (v3 + 1) M) rfl
  · refine v_aload_n (pc := 40) dX10_lineOf_40 rfl ?_
    refine v_getR (pc := 41) (q := 3) zk10 ly_0 rfl ry_0_3 tw_1029 dX10_lineOf_41 ?_
    refine v_iload_n (pc := 44) dX10_lineOf_44 rfl ?_
    refine v_iald (pc := 45) ly_2 dX10_lineOf_45 (fun x2 => ?_)
    refine v_iload_n (pc := 46) dX10_lineOf_46 rfl ?_
    refine v_icmp_ne (pc := 47) 52 dX10_lineOf_47 (by decide) ?_ ?_
    · refine v_iinc (pc := 52) 1 dX10_lineOf_52 rfl (by decide) (by decide) ?_
      refine v_goto (pc := 55) 2 dX10_lineOf_55 (by decide) ?_
      exact v_sub (hk2 v1 v2 (v3 + 1) M) rfl
    · refine v_iload_n (pc := 50) dX10_lineOf_50 rfl ?_
      exact v_iret (pc := 51) dX10_lineOf_51
theorem wMd_lineOf_2 (l : Launch) (G : zG) : ∀ (fuel : Nat) (v1 : Int32) (v2 : Int32) (v3 : Int32) (M : zM), zV eI l G zLY zRY 1 yX10_lineOf cX10_lineOf 4 (some .int) 2 [(0, .ref 0), (1, .int v1), (2, .int v2), (3, .int v3)] [] M (fMd_lineOf_2 fuel v1 v2 v3 M) := by
  intro fuel
  induction fuel with
  | zero => intro v1 v2 v3 M; exact v_none
  | succ fuel ih =>
    intro v1 v2 v3 M
    rw [fMd_lineOf_2]
    refine v_iload_n (pc := 2) dX10_lineOf_2 rfl ?_
    refine v_aload_n (pc := 3) dX10_lineOf_3 rfl ?_
    refine v_getI (pc := 4) (q := 1) zk10 ly_0 rfl tw_1027 dX10_lineOf_4 ?_
    refine v_icmp_ge (pc := 7) 58 dX10_lineOf_7 (by decide) ?_ ?_
    · refine v_iconst (pc := 58) (-1) dX10_lineOf_58 (by decide) ?_
      exact v_iret (pc := 59) dX10_lineOf_59
    · refine v_aload_n (pc := 10) dX10_lineOf_10 rfl ?_
      refine v_getR (pc := 11) (q := 2) zk10 ly_0 rfl ry_0_2 tw_1028 dX10_lineOf_11 ?_
      refine v_iload_n (pc := 14) dX10_lineOf_14 rfl ?_
      refine v_iald (pc := 15) ly_1 dX10_lineOf_15 (fun x1 => ?_)
      refine v_iload_n (pc := 16) dX10_lineOf_16 rfl ?_
      refine v_icmp_ne (pc := 17) 30 dX10_lineOf_17 (by decide) ?_ ?_
      · exact v_sub (wMd_lineOf_30 l G (fMd_lineOf_2 fuel) ih v1 v2 v3 M) rfl
      · refine v_aload_n (pc := 20) dX10_lineOf_20 rfl ?_
        refine v_getR (pc := 21) (q := 3) zk10 ly_0 rfl ry_0_3 tw_1029 dX10_lineOf_21 ?_
        refine v_iload_n (pc := 24) dX10_lineOf_24 rfl ?_
        refine v_iald (pc := 25) ly_2 dX10_lineOf_25 (fun x2 => ?_)
        refine v_iload_n (pc := 26) dX10_lineOf_26 rfl ?_
        refine v_icmp_eq (pc := 27) 50 dX10_lineOf_27 (by decide) ?_ ?_
        · refine v_iload_n (pc := 50) dX10_lineOf_50 rfl ?_
          exact v_iret (pc := 51) dX10_lineOf_51
        · exact v_sub (wMd_lineOf_30 l G (fMd_lineOf_2 fuel) ih v1 v2 v3 M) rfl
theorem wMd_lineOf (l : Launch) (G : zG) (v1 : Int32) (v2 : Int32) (M : zM) : zV eI l G zLY zRY 1 yX10_lineOf cX10_lineOf 4 (some .int) 0 [(0, .ref 0), (1, .int v1), (2, .int v2)] [] M (fMd_lineOf v1 v2 M) := by
  rw [fMd_lineOf]
  refine v_iconst (pc := 0) 0 dX10_lineOf_0 (by decide) ?_
  refine v_istore_n (pc := 1) dX10_lineOf_1 (by decide) ?_
  exact v_sub (wMd_lineOf_2 l G FU v1 v2 0 M) rfl
theorem cMd_lineOf (l : Launch) (G : zG) (v1 : Int32) (v2 : Int32) (M : zM) : zC eI l G zLY zRY 1 yX10_lineOf cX10_lineOf 4 (some .int) [.ref 0, .int v1, .int v2] M (fMd_lineOf v1 v2 M) := zC.of (by decide) (Nat.le_of_ble_eq_true rfl) (v_sub (wMd_lineOf l G v1 v2 M) rfl)
theorem dX10_degree_0 : decode cX10_degree 0 = .ok (.iconst 0, 1) := by decide +kernel
theorem dX10_degree_1 : decode cX10_degree 1 = .ok (.istore_n 2, 1) := by decide +kernel
theorem dX10_degree_2 : decode cX10_degree 2 = .ok (.iconst 0, 1) := by decide +kernel
theorem dX10_degree_3 : decode cX10_degree 3 = .ok (.istore_n 3, 1) := by decide +kernel
theorem dX10_degree_4 : decode cX10_degree 4 = .ok (.iload_n 3, 1) := by decide +kernel
theorem dX10_degree_5 : decode cX10_degree 5 = .ok (.aload_n 0, 1) := by decide +kernel
theorem dX10_degree_6 : decode cX10_degree 6 = .ok (.getfield 106, 3) := by decide +kernel
theorem dX10_degree_9 : decode cX10_degree 9 = .ok (.if_icmp .ge 40, 3) := by decide +kernel
theorem dX10_degree_12 : decode cX10_degree 12 = .ok (.iload_n 2, 1) := by decide +kernel
theorem dX10_degree_13 : decode cX10_degree 13 = .ok (.aload_n 0, 1) := by decide +kernel
theorem dX10_degree_14 : decode cX10_degree 14 = .ok (.getfield 7, 3) := by decide +kernel
theorem dX10_degree_17 : decode cX10_degree 17 = .ok (.iload_n 3, 1) := by decide +kernel
theorem dX10_degree_18 : decode cX10_degree 18 = .ok (.iaload, 1) := by decide +kernel
theorem dX10_degree_19 : decode cX10_degree 19 = .ok (.iload_n 1, 1) := by decide +kernel
theorem dX10_degree_20 : decode cX10_degree 20 = .ok (.if_icmp .eq 13, 3) := by decide +kernel
theorem dX10_degree_23 : decode cX10_degree 23 = .ok (.aload_n 0, 1) := by decide +kernel
theorem dX10_degree_24 : decode cX10_degree 24 = .ok (.getfield 13, 3) := by decide +kernel
theorem dX10_degree_27 : decode cX10_degree 27 = .ok (.iload_n 3, 1) := by decide +kernel
theorem dX10_degree_28 : decode cX10_degree 28 = .ok (.iaload, 1) := by decide +kernel
theorem dX10_degree_29 : decode cX10_degree 29 = .ok (.iload_n 1, 1) := by decide +kernel
theorem dX10_degree_30 : decode cX10_degree 30 = .ok (.if_icmp .ne 7, 3) := by decide +kernel
theorem dX10_degree_33 : decode cX10_degree 33 = .ok (.iconst 1, 1) := by decide +kernel
theorem dX10_degree_34 : decode cX10_degree 34 = .ok (.goto 4, 3) := by decide +kernel
theorem dX10_degree_37 : decode cX10_degree 37 = .ok (.iconst 0, 1) := by decide +kernel
theorem dX10_degree_38 : decode cX10_degree 38 = .ok (.invokestatic 109, 3) := by decide +kernel
theorem dX10_degree_41 : decode cX10_degree 41 = .ok (.iadd, 1) := by decide +kernel
theorem dX10_degree_42 : decode cX10_degree 42 = .ok (.istore_n 2, 1) := by decide +kernel
theorem dX10_degree_43 : decode cX10_degree 43 = .ok (.iinc 3 1, 3) := by decide +kernel
theorem dX10_degree_46 : decode cX10_degree 46 = .ok (.goto (-42), 3) := by decide +kernel
theorem dX10_degree_49 : decode cX10_degree 49 = .ok (.iload_n 2, 1) := by decide +kernel
theorem dX10_degree_50 : decode cX10_degree 50 = .ok (.ireturn, 1) := by decide +kernel
theorem wMd_degree_38 (l : Launch) (G : zG) (k4 : Int32 → Int32 → Int32 → zM → Option (Int32 × zM)) (hk4 : ∀ (v1 : Int32) (v2 : Int32) (v3 : Int32) (M : zM), zV eI l G zLY zRY 2 yX10_degree cX10_degree 4 (some .int) 4 [(0, .ref 0), (1, .int v1), (2, .int v2), (3, .int v3)] [] M (k4 v1 v2 v3 M)) (v1 : Int32) (v3 : Int32) (vs0 : Int32) (vs1 : Int32) (M : zM) : zV eI l G zLY zRY 2 yX10_degree cX10_degree 4 (some .int) 38 [(0, .ref 0), (1, .int v1), (3, .int v3)] [.int vs0, .int vs1] M (fMd_degree_38 k4 v1 v3 vs0 vs1 M) := by
  rw [fMd_degree_38]
  refine v_callS (pc := 38) (As := [.int vs0]) (cMd_bit l G vs0 M) zc_X10_bit tw_1196 (by decide) (Nat.le_of_ble_eq_true rfl) dX10_degree_38 (fun r2 M1 => ?_)
  refine v_iadd (pc := 41) dX10_degree_41 ?_
  refine v_istore_nL (pc := 42) dX10_degree_42 (by decide) (fun u2_42 => ?_)
  refine v_iinc (pc := 43) 1 dX10_degree_43 rfl (by decide) (by decide) ?_
  refine v_goto (pc := 46) 4 dX10_degree_46 (by decide) ?_
  exact v_sub (hk4 v1 u2_42 (v3 + 1) M1) rfl
theorem wMd_degree_4 (l : Launch) (G : zG) : ∀ (fuel : Nat) (v1 : Int32) (v2 : Int32) (v3 : Int32) (M : zM), zV eI l G zLY zRY 2 yX10_degree cX10_degree 4 (some .int) 4 [(0, .ref 0), (1, .int v1), (2, .int v2), (3, .int v3)] [] M (fMd_degree_4 fuel v1 v2 v3 M) := by
  intro fuel
  induction fuel with
  | zero => intro v1 v2 v3 M; exact v_none
  | succ fuel ih =>
    intro v1 v2 v3 M
    rw [fMd_degree_4]
    refine v_iload_n (pc := 4) dX10_degree_4 rfl ?_
    refine v_aload_n (pc := 5) dX10_degree_5 rfl ?_
    refine v_getI (pc := 6) (q := 1) zk10 ly_0 rfl tw_1027 dX10_degree_6 ?_
    refine v_icmp_ge (pc := 9) 49 dX10_degree_9 (by decide) ?_ ?_
    · refine v_iload_n (pc := 49) dX10_degree_49 rfl ?_
      exact v_iret (pc := 50) dX10_degree_50
    · refine v_iload_n (pc := 12) dX10_degree_12 rfl ?_
      refine v_aload_n (pc := 13) dX10_degree_13 rfl ?_
      refine v_getR (pc := 14) (q := 2) zk10 ly_0 rfl ry_0_2 tw_1028 dX10_degree_14 ?_
      refine v_iload_n (pc := 17) dX10_degree_17 rfl ?_
      refine v_iald (pc := 18) ly_1 dX10_degree_18 (fun x1 => ?_)
      refine v_iload_n (pc := 19) dX10_degree_19 rfl ?_
      refine v_icmp_eq (pc := 20) 33 dX10_degree_20 (by decide) ?_ ?_
      · refine v_iconst (pc := 33) 1 dX10_degree_33 (by decide) ?_
        refine v_goto (pc := 34) 38 dX10_degree_34 (by decide) ?_
        exact v_sub (wMd_degree_38 l G (fMd_degree_4 fuel) ih v1 v3 1 v2 M) rfl
      · refine v_aload_n (pc := 23) dX10_degree_23 rfl ?_
        refine v_getR (pc := 24) (q := 3) zk10 ly_0 rfl ry_0_3 tw_1029 dX10_degree_24 ?_
        refine v_iload_n (pc := 27) dX10_degree_27 rfl ?_
        refine v_iald (pc := 28) ly_2 dX10_degree_28 (fun x2 => ?_)
        refine v_iload_n (pc := 29) dX10_degree_29 rfl ?_
        refine v_icmp_ne (pc := 30) 37 dX10_degree_30 (by decide) ?_ ?_
        · refine v_iconst (pc := 37) 0 dX10_degree_37 (by decide) ?_
          exact v_sub (wMd_degree_38 l G (fMd_degree_4 fuel) ih v1 v3 0 v2 M) rfl
        · refine v_iconst (pc := 33) 1 dX10_degree_33 (by decide) ?_
          refine v_goto (pc := 34) 38 dX10_degree_34 (by decide) ?_
          exact v_sub (wMd_degree_38 l G (fMd_degree_4 fuel) ih v1 v3 1 v2 M) rfl
theorem wMd_degree (l : Launch) (G : zG) (v1 : Int32) (M : zM) : zV eI l G zLY zRY 2 yX10_degree cX10_degree 4 (some .int) 0 [(0, .ref 0), (1, .int v1)] [] M (fMd_degree v1 M) := by
  rw [fMd_degree]
  refine v_iconst (pc := 0) 0 dX10_degree_0 (by decide) ?_
  refine v_istore_n (pc := 1) dX10_degree_1 (by decide) ?_
  refine v_iconst (pc := 2) 0 dX10_degree_2 (by decide) ?_
  refine v_istore_n (pc := 3) dX10_degree_3 (by decide) ?_
  exact v_sub (wMd_degree_4 l G FU v1 0 0 M) rfl
theorem cMd_degree (l : Launch) (G : zG) (v1 : Int32) (M : zM) : zC eI l G zLY zRY 2 yX10_degree cX10_degree 4 (some .int) [.ref 0, .int v1] M (fMd_degree v1 M) := zC.of (by decide) (Nat.le_of_ble_eq_true rfl) (v_sub (wMd_degree l G v1 M) rfl)
theorem dX10_net_0 : decode cX10_net 0 = .ok (.iload_n 1, 1) := by decide +kernel
theorem dX10_net_1 : decode cX10_net 1 = .ok (.i2l, 1) := by decide +kernel
theorem dX10_net_2 : decode cX10_net 2 = .ok (.lconst 1, 1) := by decide +kernel
theorem dX10_net_3 : decode cX10_net 3 = .ok (.ldc2_w 113, 3) := by decide +kernel
theorem dX10_net_6 : decode cX10_net 6 = .ok (.invokestatic 102, 3) := by decide +kernel
theorem dX10_net_9 : decode cX10_net 9 = .ok (.ifCond .ne 7, 3) := by decide +kernel
theorem dX10_net_12 : decode cX10_net 12 = .ok (.sipush (-1002), 3) := by decide +kernel
theorem dX10_net_15 : decode cX10_net 15 = .ok (.ireturn, 1) := by decide +kernel
theorem dX10_net_16 : decode cX10_net 16 = .ok (.aload_n 0, 1) := by decide +kernel
theorem dX10_net_17 : decode cX10_net 17 = .ok (.iload_n 1, 1) := by decide +kernel
theorem dX10_net_18 : decode cX10_net 18 = .ok (.putfield 99, 3) := by decide +kernel
theorem dX10_net_21 : decode cX10_net 21 = .ok (.aload_n 0, 1) := by decide +kernel
theorem dX10_net_22 : decode cX10_net 22 = .ok (.iconst 0, 1) := by decide +kernel
theorem dX10_net_23 : decode cX10_net 23 = .ok (.putfield 106, 3) := by decide +kernel
theorem dX10_net_26 : decode cX10_net 26 = .ok (.iconst 1, 1) := by decide +kernel
theorem dX10_net_27 : decode cX10_net 27 = .ok (.ireturn, 1) := by decide +kernel
theorem wMd_net (l : Launch) (G : zG) (v1 : Int32) (M : zM) : zV eI l G zLY zRY 2 yX10_net cX10_net 2 (some .int) 0 [(0, .ref 0), (1, .int v1)] [] M (fMd_net v1 M) := by
  rw [fMd_net]
  refine v_iload_n (pc := 0) dX10_net_0 rfl ?_
  refine v_i2l (pc := 1) dX10_net_1 ?_
  refine v_lconst (pc := 2) 1 dX10_net_2 (by decide) ?_
  refine v_ldc2 (pc := 3) 12 tw_1152 dX10_net_3 ?_
  refine v_callS (pc := 6) (As := [.long v1.toInt64, .long 1, .long 12]) (cMd_in l G v1.toInt64 1 12 M) zc_X10_in tw_1153 (by decide) (Nat.le_of_ble_eq_true rfl) dX10_net_6 (fun r2 M1 => ?_)
  refine v_if_ne (pc := 9) 16 dX10_net_9 (by decide) ?_ ?_
  · refine v_aload_n (pc := 16) dX10_net_16 rfl ?_
    refine v_iload_n (pc := 17) dX10_net_17 rfl ?_
    refine v_putI (pc := 18) (q := 0) zk10 ly_0 rfl tw_1026 rfl rfl rfl dX10_net_18 (fun M3 => ?_)
    refine v_aload_n (pc := 21) dX10_net_21 rfl ?_
    refine v_iconst (pc := 22) 0 dX10_net_22 (by decide) ?_
    refine v_putI (pc := 23) (q := 1) zk10 ly_0 rfl tw_1027 rfl rfl rfl dX10_net_23 (fun M4 => ?_)
    refine v_iconst (pc := 26) 1 dX10_net_26 (by decide) ?_
    exact v_iret (pc := 27) dX10_net_27
  · refine v_sipush (pc := 12) (-1002) dX10_net_12 (by decide) ?_
    exact v_iret (pc := 15) dX10_net_15
theorem cMd_net (l : Launch) (G : zG) (v1 : Int32) (M : zM) : zC eI l G zLY zRY 2 yX10_net cX10_net 2 (some .int) [.ref 0, .int v1] M (fMd_net v1 M) := zC.of (by decide) (Nat.le_of_ble_eq_true rfl) (v_sub (wMd_net l G v1 M) rfl)
theorem dX10_post_0 : decode cX10_post 0 = .ok (.aload_n 0, 1) := by decide +kernel
theorem dX10_post_1 : decode cX10_post 1 = .ok (.getfield 99, 3) := by decide +kernel
theorem dX10_post_4 : decode cX10_post 4 = .ok (.bipush 12, 2) := by decide +kernel
theorem dX10_post_6 : decode cX10_post 6 = .ok (.if_icmp .ne 7, 3) := by decide +kernel
theorem dX10_post_9 : decode cX10_post 9 = .ok (.sipush (-1004), 3) := by decide +kernel
theorem dX10_post_12 : decode cX10_post 12 = .ok (.ireturn, 1) := by decide +kernel
theorem dX10_post_13 : decode cX10_post 13 = .ok (.aload_n 0, 1) := by decide +kernel
theorem dX10_post_14 : decode cX10_post 14 = .ok (.dup, 1) := by decide +kernel
theorem dX10_post_15 : decode cX10_post 15 = .ok (.getfield 99, 3) := by decide +kernel
theorem dX10_post_18 : decode cX10_post 18 = .ok (.iconst 1, 1) := by decide +kernel
theorem dX10_post_19 : decode cX10_post 19 = .ok (.iadd, 1) := by decide +kernel
theorem dX10_post_20 : decode cX10_post 20 = .ok (.putfield 99, 3) := by decide +kernel
theorem dX10_post_23 : decode cX10_post 23 = .ok (.aload_n 0, 1) := by decide +kernel
theorem dX10_post_24 : decode cX10_post 24 = .ok (.getfield 99, 3) := by decide +kernel
theorem dX10_post_27 : decode cX10_post 27 = .ok (.iconst 1, 1) := by decide +kernel
theorem dX10_post_28 : decode cX10_post 28 = .ok (.isub, 1) := by decide +kernel
theorem dX10_post_29 : decode cX10_post 29 = .ok (.ireturn, 1) := by decide +kernel
theorem wMd_post (l : Launch) (G : zG)  (M : zM) : zV eI l G zLY zRY 1 yX10_post cX10_post 1 (some .int) 0 [(0, .ref 0)] [] M (fMd_post  M) := by
  rw [fMd_post]
  refine v_aload_n (pc := 0) dX10_post_0 rfl ?_
  refine v_getI (pc := 1) (q := 0) zk10 ly_0 rfl tw_1026 dX10_post_1 ?_
  refine v_bipush (pc := 4) 12 dX10_post_4 (by decide) ?_
  refine v_icmp_ne (pc := 6) 13 dX10_post_6 (by decide) ?_ ?_
  · refine v_aload_n (pc := 13) dX10_post_13 rfl ?_
    refine v_dup (pc := 14) dX10_post_14 rfl ?_
    refine v_getI (pc := 15) (q := 0) zk10 ly_0 rfl tw_1026 dX10_post_15 ?_
    refine v_iconst (pc := 18) 1 dX10_post_18 (by decide) ?_
    refine v_iadd (pc := 19) dX10_post_19 ?_
    refine v_putI (pc := 20) (q := 0) zk10 ly_0 rfl tw_1026 rfl rfl rfl dX10_post_20 (fun M1 => ?_)
    refine v_aload_n (pc := 23) dX10_post_23 rfl ?_
    refine v_getI (pc := 24) (q := 0) zk10 ly_0 rfl tw_1026 dX10_post_24 ?_
    refine v_iconst (pc := 27) 1 dX10_post_27 (by decide) ?_
    refine v_isub (pc := 28) dX10_post_28 ?_
    exact v_iret (pc := 29) dX10_post_29
  · refine v_sipush (pc := 9) (-1004) dX10_post_9 (by decide) ?_
    exact v_iret (pc := 12) dX10_post_12
theorem cMd_post (l : Launch) (G : zG)  (M : zM) : zC eI l G zLY zRY 1 yX10_post cX10_post 1 (some .int) [.ref 0] M (fMd_post  M) := zC.of (by decide) (Nat.le_of_ble_eq_true rfl) (v_sub (wMd_post l G  M) rfl)
theorem dX10_line_0 : decode cX10_line 0 = .ok (.aload_n 0, 1) := by decide +kernel
theorem dX10_line_1 : decode cX10_line 1 = .ok (.iload_n 1, 1) := by decide +kernel
theorem dX10_line_2 : decode cX10_line 2 = .ok (.invokevirtual 115, 3) := by decide +kernel
theorem dX10_line_5 : decode cX10_line 5 = .ok (.ifCond .ne 11, 3) := by decide +kernel
theorem dX10_line_8 : decode cX10_line 8 = .ok (.aload_n 0, 1) := by decide +kernel
theorem dX10_line_9 : decode cX10_line 9 = .ok (.iload_n 2, 1) := by decide +kernel
theorem dX10_line_10 : decode cX10_line 10 = .ok (.invokevirtual 115, 3) := by decide +kernel
theorem dX10_line_13 : decode cX10_line 13 = .ok (.ifCond .eq 7, 3) := by decide +kernel
theorem dX10_line_16 : decode cX10_line 16 = .ok (.sipush (-1001), 3) := by decide +kernel
theorem dX10_line_19 : decode cX10_line 19 = .ok (.ireturn, 1) := by decide +kernel
theorem dX10_line_20 : decode cX10_line 20 = .ok (.iload_n 1, 1) := by decide +kernel
theorem dX10_line_21 : decode cX10_line 21 = .ok (.iload_n 2, 1) := by decide +kernel
theorem dX10_line_22 : decode cX10_line 22 = .ok (.if_icmp .ne 7, 3) := by decide +kernel
theorem dX10_line_25 : decode cX10_line 25 = .ok (.sipush (-1002), 3) := by decide +kernel
theorem dX10_line_28 : decode cX10_line 28 = .ok (.ireturn, 1) := by decide +kernel
theorem dX10_line_29 : decode cX10_line 29 = .ok (.aload_n 0, 1) := by decide +kernel
theorem dX10_line_30 : decode cX10_line 30 = .ok (.iload_n 1, 1) := by decide +kernel
theorem dX10_line_31 : decode cX10_line 31 = .ok (.iload_n 2, 1) := by decide +kernel
theorem dX10_line_32 : decode cX10_line 32 = .ok (.invokevirtual 119, 3) := by decide +kernel
theorem dX10_line_35 : decode cX10_line 35 = .ok (.ifCond .lt 7, 3) := by decide +kernel
theorem dX10_line_38 : decode cX10_line 38 = .ok (.sipush (-1003), 3) := by decide +kernel
theorem dX10_line_41 : decode cX10_line 41 = .ok (.ireturn, 1) := by decide +kernel
theorem dX10_line_42 : decode cX10_line 42 = .ok (.aload_n 0, 1) := by decide +kernel
theorem dX10_line_43 : decode cX10_line 43 = .ok (.getfield 106, 3) := by decide +kernel
theorem dX10_line_46 : decode cX10_line 46 = .ok (.bipush 30, 2) := by decide +kernel
theorem dX10_line_48 : decode cX10_line 48 = .ok (.if_icmp .ne 7, 3) := by decide +kernel
theorem dX10_line_51 : decode cX10_line 51 = .ok (.sipush (-1004), 3) := by decide +kernel
theorem dX10_line_54 : decode cX10_line 54 = .ok (.ireturn, 1) := by decide +kernel
theorem dX10_line_55 : decode cX10_line 55 = .ok (.aload_n 0, 1) := by decide +kernel
theorem dX10_line_56 : decode cX10_line 56 = .ok (.getfield 7, 3) := by decide +kernel
theorem dX10_line_59 : decode cX10_line 59 = .ok (.aload_n 0, 1) := by decide +kernel
theorem dX10_line_60 : decode cX10_line 60 = .ok (.getfield 106, 3) := by decide +kernel
theorem dX10_line_63 : decode cX10_line 63 = .ok (.iload_n 1, 1) := by decide +kernel
theorem dX10_line_64 : decode cX10_line 64 = .ok (.iastore, 1) := by decide +kernel
theorem dX10_line_65 : decode cX10_line 65 = .ok (.aload_n 0, 1) := by decide +kernel
theorem dX10_line_66 : decode cX10_line 66 = .ok (.getfield 13, 3) := by decide +kernel
theorem dX10_line_69 : decode cX10_line 69 = .ok (.aload_n 0, 1) := by decide +kernel
theorem dX10_line_70 : decode cX10_line 70 = .ok (.getfield 106, 3) := by decide +kernel
theorem dX10_line_73 : decode cX10_line 73 = .ok (.iload_n 2, 1) := by decide +kernel
theorem dX10_line_74 : decode cX10_line 74 = .ok (.iastore, 1) := by decide +kernel
theorem dX10_line_75 : decode cX10_line 75 = .ok (.aload_n 0, 1) := by decide +kernel
theorem dX10_line_76 : decode cX10_line 76 = .ok (.dup, 1) := by decide +kernel
theorem dX10_line_77 : decode cX10_line 77 = .ok (.getfield 106, 3) := by decide +kernel
theorem dX10_line_80 : decode cX10_line 80 = .ok (.iconst 1, 1) := by decide +kernel
theorem dX10_line_81 : decode cX10_line 81 = .ok (.iadd, 1) := by decide +kernel
theorem dX10_line_82 : decode cX10_line 82 = .ok (.putfield 106, 3) := by decide +kernel
theorem dX10_line_85 : decode cX10_line 85 = .ok (.aload_n 0, 1) := by decide +kernel
theorem dX10_line_86 : decode cX10_line 86 = .ok (.getfield 106, 3) := by decide +kernel
theorem dX10_line_89 : decode cX10_line 89 = .ok (.iconst 1, 1) := by decide +kernel
theorem dX10_line_90 : decode cX10_line 90 = .ok (.isub, 1) := by decide +kernel
theorem dX10_line_91 : decode cX10_line 91 = .ok (.ireturn, 1) := by decide +kernel
theorem wMd_line (l : Launch) (G : zG) (v1 : Int32) (v2 : Int32) (M : zM) : zV eI l G zLY zRY 3 yX10_line cX10_line 3 (some .int) 0 [(0, .ref 0), (1, .int v1), (2, .int v2)] [] M (fMd_line v1 v2 M) := by
  rw [fMd_line]
  refine v_aload_n (pc := 0) dX10_line_0 rfl ?_
  refine v_iload_n (pc := 1) dX10_line_1 rfl ?_
  refine v_callV (pc := 2) (As := [.int v1]) (cMd_noPost l G v1 M) zc_X10_noPost zk10 rfl ly_0 tw_1164 (by decide) (Nat.le_of_ble_eq_true rfl) dX10_line_2 (fun r2 M1 => ?_)
  refine v_if_ne (pc := 5) 16 dX10_line_5 (by decide) ?_ ?_
  · refine v_sipush (pc := 16) (-1001) dX10_line_16 (by decide) ?_
    exact v_iret (pc := 19) dX10_line_19
  · refine v_aload_n (pc := 8) dX10_line_8 rfl ?_
    refine v_iload_n (pc := 9) dX10_line_9 rfl ?_
    refine v_callV (pc := 10) (As := [.int v2]) (cMd_noPost l G v2 M1) zc_X10_noPost zk10 rfl ly_0 tw_1164 (by decide) (Nat.le_of_ble_eq_true rfl) dX10_line_10 (fun r4 M3 => ?_)
    refine v_if_eq (pc := 13) 20 dX10_line_13 (by decide) ?_ ?_
    · refine v_iload_n (pc := 20) dX10_line_20 rfl ?_
      refine v_iload_n (pc := 21) dX10_line_21 rfl ?_
      refine v_icmp_ne (pc := 22) 29 dX10_line_22 (by decide) ?_ ?_
      · refine v_aload_n (pc := 29) dX10_line_29 rfl ?_
        refine v_iload_n (pc := 30) dX10_line_30 rfl ?_
        refine v_iload_n (pc := 31) dX10_line_31 rfl ?_
        refine v_callV (pc := 32) (As := [.int v1, .int v2]) (cMd_lineOf l G v1 v2 M3) zc_X10_lineOf zk10 rfl ly_0 tw_1168 (by decide) (Nat.le_of_ble_eq_true rfl) dX10_line_32 (fun r6 M5 => ?_)
        refine v_if_lt (pc := 35) 42 dX10_line_35 (by decide) ?_ ?_
        · refine v_aload_n (pc := 42) dX10_line_42 rfl ?_
          refine v_getI (pc := 43) (q := 1) zk10 ly_0 rfl tw_1027 dX10_line_43 ?_
          refine v_bipush (pc := 46) 30 dX10_line_46 (by decide) ?_
          refine v_icmp_ne (pc := 48) 55 dX10_line_48 (by decide) ?_ ?_
          · refine v_aload_n (pc := 55) dX10_line_55 rfl ?_
            refine v_getR (pc := 56) (q := 2) zk10 ly_0 rfl ry_0_2 tw_1028 dX10_line_56 ?_
            refine v_aload_n (pc := 59) dX10_line_59 rfl ?_
            refine v_getI (pc := 60) (q := 1) zk10 ly_0 rfl tw_1027 dX10_line_60 ?_
            refine v_iload_n (pc := 63) dX10_line_63 rfl ?_
            refine v_iast (pc := 64) ly_1 dX10_line_64 (fun M7 => ?_)
            refine v_aload_n (pc := 65) dX10_line_65 rfl ?_
            refine v_getR (pc := 66) (q := 3) zk10 ly_0 rfl ry_0_3 tw_1029 dX10_line_66 ?_
            refine v_aload_n (pc := 69) dX10_line_69 rfl ?_
            refine v_getI (pc := 70) (q := 1) zk10 ly_0 rfl tw_1027 dX10_line_70 ?_
            refine v_iload_n (pc := 73) dX10_line_73 rfl ?_
            refine v_iast (pc := 74) ly_2 dX10_line_74 (fun M8 => ?_)
            refine v_aload_n (pc := 75) dX10_line_75 rfl ?_
            refine v_dup (pc := 76) dX10_line_76 rfl ?_
            refine v_getI (pc := 77) (q := 1) zk10 ly_0 rfl tw_1027 dX10_line_77 ?_
            refine v_iconst (pc := 80) 1 dX10_line_80 (by decide) ?_
            refine v_iadd (pc := 81) dX10_line_81 ?_
            refine v_putI (pc := 82) (q := 1) zk10 ly_0 rfl tw_1027 rfl rfl rfl dX10_line_82 (fun M9 => ?_)
            refine v_aload_n (pc := 85) dX10_line_85 rfl ?_
            refine v_getI (pc := 86) (q := 1) zk10 ly_0 rfl tw_1027 dX10_line_86 ?_
            refine v_iconst (pc := 89) 1 dX10_line_89 (by decide) ?_
            refine v_isub (pc := 90) dX10_line_90 ?_
            exact v_iret (pc := 91) dX10_line_91
          · refine v_sipush (pc := 51) (-1004) dX10_line_51 (by decide) ?_
            exact v_iret (pc := 54) dX10_line_54
        · refine v_sipush (pc := 38) (-1003) dX10_line_38 (by decide) ?_
          exact v_iret (pc := 41) dX10_line_41
      · refine v_sipush (pc := 25) (-1002) dX10_line_25 (by decide) ?_
        exact v_iret (pc := 28) dX10_line_28
    · refine v_sipush (pc := 16) (-1001) dX10_line_16 (by decide) ?_
      exact v_iret (pc := 19) dX10_line_19
theorem cMd_line (l : Launch) (G : zG) (v1 : Int32) (v2 : Int32) (M : zM) : zC eI l G zLY zRY 3 yX10_line cX10_line 3 (some .int) [.ref 0, .int v1, .int v2] M (fMd_line v1 v2 M) := zC.of (by decide) (Nat.le_of_ble_eq_true rfl) (v_sub (wMd_line l G v1 v2 M) rfl)
theorem dX10_strike_0 : decode cX10_strike 0 = .ok (.aload_n 0, 1) := by decide +kernel
theorem dX10_strike_1 : decode cX10_strike 1 = .ok (.iload_n 1, 1) := by decide +kernel
theorem dX10_strike_2 : decode cX10_strike 2 = .ok (.invokevirtual 123, 3) := by decide +kernel
theorem dX10_strike_5 : decode cX10_strike 5 = .ok (.ifCond .eq 7, 3) := by decide +kernel
theorem dX10_strike_8 : decode cX10_strike 8 = .ok (.sipush (-1001), 3) := by decide +kernel
theorem dX10_strike_11 : decode cX10_strike 11 = .ok (.ireturn, 1) := by decide +kernel
theorem dX10_strike_12 : decode cX10_strike 12 = .ok (.aload_n 0, 1) := by decide +kernel
theorem dX10_strike_13 : decode cX10_strike 13 = .ok (.dup, 1) := by decide +kernel
theorem dX10_strike_14 : decode cX10_strike 14 = .ok (.getfield 106, 3) := by decide +kernel
theorem dX10_strike_17 : decode cX10_strike 17 = .ok (.iconst 1, 1) := by decide +kernel
theorem dX10_strike_18 : decode cX10_strike 18 = .ok (.isub, 1) := by decide +kernel
theorem dX10_strike_19 : decode cX10_strike 19 = .ok (.putfield 106, 3) := by decide +kernel
theorem dX10_strike_22 : decode cX10_strike 22 = .ok (.iload_n 1, 1) := by decide +kernel
theorem dX10_strike_23 : decode cX10_strike 23 = .ok (.istore_n 2, 1) := by decide +kernel
theorem dX10_strike_24 : decode cX10_strike 24 = .ok (.iload_n 2, 1) := by decide +kernel
theorem dX10_strike_25 : decode cX10_strike 25 = .ok (.aload_n 0, 1) := by decide +kernel
theorem dX10_strike_26 : decode cX10_strike 26 = .ok (.getfield 106, 3) := by decide +kernel
theorem dX10_strike_29 : decode cX10_strike 29 = .ok (.if_icmp .ge 37, 3) := by decide +kernel
theorem dX10_strike_32 : decode cX10_strike 32 = .ok (.aload_n 0, 1) := by decide +kernel
theorem dX10_strike_33 : decode cX10_strike 33 = .ok (.getfield 7, 3) := by decide +kernel
theorem dX10_strike_36 : decode cX10_strike 36 = .ok (.iload_n 2, 1) := by decide +kernel
theorem dX10_strike_37 : decode cX10_strike 37 = .ok (.aload_n 0, 1) := by decide +kernel
theorem dX10_strike_38 : decode cX10_strike 38 = .ok (.getfield 7, 3) := by decide +kernel
theorem dX10_strike_41 : decode cX10_strike 41 = .ok (.iload_n 2, 1) := by decide +kernel
theorem dX10_strike_42 : decode cX10_strike 42 = .ok (.iconst 1, 1) := by decide +kernel
theorem dX10_strike_43 : decode cX10_strike 43 = .ok (.iadd, 1) := by decide +kernel
theorem dX10_strike_44 : decode cX10_strike 44 = .ok (.iaload, 1) := by decide +kernel
theorem dX10_strike_45 : decode cX10_strike 45 = .ok (.iastore, 1) := by decide +kernel
theorem dX10_strike_46 : decode cX10_strike 46 = .ok (.aload_n 0, 1) := by decide +kernel
theorem dX10_strike_47 : decode cX10_strike 47 = .ok (.getfield 13, 3) := by decide +kernel
theorem dX10_strike_50 : decode cX10_strike 50 = .ok (.iload_n 2, 1) := by decide +kernel
theorem dX10_strike_51 : decode cX10_strike 51 = .ok (.aload_n 0, 1) := by decide +kernel
theorem dX10_strike_52 : decode cX10_strike 52 = .ok (.getfield 13, 3) := by decide +kernel
theorem dX10_strike_55 : decode cX10_strike 55 = .ok (.iload_n 2, 1) := by decide +kernel
theorem dX10_strike_56 : decode cX10_strike 56 = .ok (.iconst 1, 1) := by decide +kernel
theorem dX10_strike_57 : decode cX10_strike 57 = .ok (.iadd, 1) := by decide +kernel
theorem dX10_strike_58 : decode cX10_strike 58 = .ok (.iaload, 1) := by decide +kernel
theorem dX10_strike_59 : decode cX10_strike 59 = .ok (.iastore, 1) := by decide +kernel
theorem dX10_strike_60 : decode cX10_strike 60 = .ok (.iinc 2 1, 3) := by decide +kernel
theorem dX10_strike_63 : decode cX10_strike 63 = .ok (.goto (-39), 3) := by decide +kernel
theorem dX10_strike_66 : decode cX10_strike 66 = .ok (.aload_n 0, 1) := by decide +kernel
theorem dX10_strike_67 : decode cX10_strike 67 = .ok (.getfield 106, 3) := by decide +kernel
theorem dX10_strike_70 : decode cX10_strike 70 = .ok (.ireturn, 1) := by decide +kernel
theorem wMd_strike_24 (l : Launch) (G : zG) : ∀ (fuel : Nat) (v2 : Int32) (M : zM), zV eI l G zLY zRY 3 yX10_strike cX10_strike 3 (some .int) 24 [(0, .ref 0), (2, .int v2)] [] M (fMd_strike_24 fuel v2 M) := by
  intro fuel
  induction fuel with
  | zero => intro v2 M; exact v_none
  | succ fuel ih =>
    intro v2 M
    rw [fMd_strike_24]
    refine v_iload_n (pc := 24) dX10_strike_24 rfl ?_
    refine v_aload_n (pc := 25) dX10_strike_25 rfl ?_
    refine v_getI (pc := 26) (q := 1) zk10 ly_0 rfl tw_1027 dX10_strike_26 ?_
    refine v_icmp_ge (pc := 29) 66 dX10_strike_29 (by decide) ?_ ?_
    · refine v_aload_n (pc := 66) dX10_strike_66 rfl ?_
      refine v_getI (pc := 67) (q := 1) zk10 ly_0 rfl tw_1027 dX10_strike_67 ?_
      exact v_iret (pc := 70) dX10_strike_70
    · refine v_aload_n (pc := 32) dX10_strike_32 rfl ?_
      refine v_getR (pc := 33) (q := 2) zk10 ly_0 rfl ry_0_2 tw_1028 dX10_strike_33 ?_
      refine v_iload_n (pc := 36) dX10_strike_36 rfl ?_
      refine v_aload_n (pc := 37) dX10_strike_37 rfl ?_
      refine v_getR (pc := 38) (q := 2) zk10 ly_0 rfl ry_0_2 tw_1028 dX10_strike_38 ?_
      refine v_iload_n (pc := 41) dX10_strike_41 rfl ?_
      refine v_iconst (pc := 42) 1 dX10_strike_42 (by decide) ?_
      refine v_iadd (pc := 43) dX10_strike_43 ?_
      refine v_iald (pc := 44) ly_1 dX10_strike_44 (fun x1 => ?_)
      refine v_iast (pc := 45) ly_1 dX10_strike_45 (fun M2 => ?_)
      refine v_aload_n (pc := 46) dX10_strike_46 rfl ?_
      refine v_getR (pc := 47) (q := 3) zk10 ly_0 rfl ry_0_3 tw_1029 dX10_strike_47 ?_
      refine v_iload_n (pc := 50) dX10_strike_50 rfl ?_
      refine v_aload_n (pc := 51) dX10_strike_51 rfl ?_
      refine v_getR (pc := 52) (q := 3) zk10 ly_0 rfl ry_0_3 tw_1029 dX10_strike_52 ?_
      refine v_iload_n (pc := 55) dX10_strike_55 rfl ?_
      refine v_iconst (pc := 56) 1 dX10_strike_56 (by decide) ?_
      refine v_iadd (pc := 57) dX10_strike_57 ?_
      refine v_iald (pc := 58) ly_2 dX10_strike_58 (fun x3 => ?_)
      refine v_iast (pc := 59) ly_2 dX10_strike_59 (fun M4 => ?_)
      refine v_iinc (pc := 60) 1 dX10_strike_60 rfl (by decide) (by decide) ?_
      refine v_goto (pc := 63) 24 dX10_strike_63 (by decide) ?_
      exact v_sub (ih (v2 + 1) M4) rfl
theorem wMd_strike (l : Launch) (G : zG) (v1 : Int32) (M : zM) : zV eI l G zLY zRY 3 yX10_strike cX10_strike 3 (some .int) 0 [(0, .ref 0), (1, .int v1)] [] M (fMd_strike v1 M) := by
  rw [fMd_strike]
  refine v_aload_n (pc := 0) dX10_strike_0 rfl ?_
  refine v_iload_n (pc := 1) dX10_strike_1 rfl ?_
  refine v_callV (pc := 2) (As := [.int v1]) (cMd_noLine l G v1 M) zc_X10_noLine zk10 rfl ly_0 tw_1176 (by decide) (Nat.le_of_ble_eq_true rfl) dX10_strike_2 (fun r2 M1 => ?_)
  refine v_if_eq (pc := 5) 12 dX10_strike_5 (by decide) ?_ ?_
  · refine v_aload_n (pc := 12) dX10_strike_12 rfl ?_
    refine v_dup (pc := 13) dX10_strike_13 rfl ?_
    refine v_getI (pc := 14) (q := 1) zk10 ly_0 rfl tw_1027 dX10_strike_14 ?_
    refine v_iconst (pc := 17) 1 dX10_strike_17 (by decide) ?_
    refine v_isub (pc := 18) dX10_strike_18 ?_
    refine v_putI (pc := 19) (q := 1) zk10 ly_0 rfl tw_1027 rfl rfl rfl dX10_strike_19 (fun M3 => ?_)
    refine v_iload_n (pc := 22) dX10_strike_22 rfl ?_
    refine v_istore_n (pc := 23) dX10_strike_23 (by decide) ?_
    exact v_sub (wMd_strike_24 l G FU v1 M3) rfl
  · refine v_sipush (pc := 8) (-1001) dX10_strike_8 (by decide) ?_
    exact v_iret (pc := 11) dX10_strike_11
theorem cMd_strike (l : Launch) (G : zG) (v1 : Int32) (M : zM) : zC eI l G zLY zRY 3 yX10_strike cX10_strike 3 (some .int) [.ref 0, .int v1] M (fMd_strike v1 M) := zC.of (by decide) (Nat.le_of_ble_eq_true rfl) (v_sub (wMd_strike l G v1 M) rfl)
theorem dX10_grow_0 : decode cX10_grow 0 = .ok (.aload_n 0, 1) := by decide +kernel
theorem dX10_grow_1 : decode cX10_grow 1 = .ok (.dup, 1) := by decide +kernel
theorem dX10_grow_2 : decode cX10_grow 2 = .ok (.getfield 126, 3) := by decide +kernel
theorem dX10_grow_5 : decode cX10_grow 5 = .ok (.iconst 1, 1) := by decide +kernel
theorem dX10_grow_6 : decode cX10_grow 6 = .ok (.iadd, 1) := by decide +kernel
theorem dX10_grow_7 : decode cX10_grow 7 = .ok (.putfield 126, 3) := by decide +kernel
theorem dX10_grow_10 : decode cX10_grow 10 = .ok (.aload_n 0, 1) := by decide +kernel
theorem dX10_grow_11 : decode cX10_grow 11 = .ok (.getfield 19, 3) := by decide +kernel
theorem dX10_grow_14 : decode cX10_grow 14 = .ok (.iload_n 1, 1) := by decide +kernel
theorem dX10_grow_15 : decode cX10_grow 15 = .ok (.iload_n 1, 1) := by decide +kernel
theorem dX10_grow_16 : decode cX10_grow 16 = .ok (.iastore, 1) := by decide +kernel
theorem dX10_grow_17 : decode cX10_grow 17 = .ok (.aload_n 0, 1) := by decide +kernel
theorem dX10_grow_18 : decode cX10_grow 18 = .ok (.getfield 16, 3) := by decide +kernel
theorem dX10_grow_21 : decode cX10_grow 21 = .ok (.iload_n 1, 1) := by decide +kernel
theorem dX10_grow_22 : decode cX10_grow 22 = .ok (.iconst (-1), 1) := by decide +kernel
theorem dX10_grow_23 : decode cX10_grow 23 = .ok (.iastore, 1) := by decide +kernel
theorem dX10_grow_24 : decode cX10_grow 24 = .ok (.aload_n 0, 1) := by decide +kernel
theorem dX10_grow_25 : decode cX10_grow 25 = .ok (.getfield 22, 3) := by decide +kernel
theorem dX10_grow_28 : decode cX10_grow 28 = .ok (.iload_n 1, 1) := by decide +kernel
theorem dX10_grow_29 : decode cX10_grow 29 = .ok (.iconst 0, 1) := by decide +kernel
theorem dX10_grow_30 : decode cX10_grow 30 = .ok (.iastore, 1) := by decide +kernel
theorem dX10_grow_31 : decode cX10_grow 31 = .ok (.aload_n 0, 1) := by decide +kernel
theorem dX10_grow_32 : decode cX10_grow 32 = .ok (.getfield 25, 3) := by decide +kernel
theorem dX10_grow_35 : decode cX10_grow 35 = .ok (.iload_n 1, 1) := by decide +kernel
theorem dX10_grow_36 : decode cX10_grow 36 = .ok (.iconst (-1), 1) := by decide +kernel
theorem dX10_grow_37 : decode cX10_grow 37 = .ok (.iastore, 1) := by decide +kernel
theorem dX10_grow_38 : decode cX10_grow 38 = .ok (.aload_n 0, 1) := by decide +kernel
theorem dX10_grow_39 : decode cX10_grow 39 = .ok (.getfield 28, 3) := by decide +kernel
theorem dX10_grow_42 : decode cX10_grow 42 = .ok (.iconst 0, 1) := by decide +kernel
theorem dX10_grow_43 : decode cX10_grow 43 = .ok (.iload_n 1, 1) := by decide +kernel
theorem dX10_grow_44 : decode cX10_grow 44 = .ok (.iastore, 1) := by decide +kernel
theorem dX10_grow_45 : decode cX10_grow 45 = .ok (.iconst 0, 1) := by decide +kernel
theorem dX10_grow_46 : decode cX10_grow 46 = .ok (.istore_n 2, 1) := by decide +kernel
theorem dX10_grow_47 : decode cX10_grow 47 = .ok (.iconst 1, 1) := by decide +kernel
theorem dX10_grow_48 : decode cX10_grow 48 = .ok (.istore_n 3, 1) := by decide +kernel
theorem dX10_grow_49 : decode cX10_grow 49 = .ok (.iload_n 2, 1) := by decide +kernel
theorem dX10_grow_50 : decode cX10_grow 50 = .ok (.iload_n 3, 1) := by decide +kernel
theorem dX10_grow_51 : decode cX10_grow 51 = .ok (.if_icmp .ge 127, 3) := by decide +kernel
theorem dX10_grow_54 : decode cX10_grow 54 = .ok (.aload_n 0, 1) := by decide +kernel
theorem dX10_grow_55 : decode cX10_grow 55 = .ok (.getfield 28, 3) := by decide +kernel
theorem dX10_grow_58 : decode cX10_grow 58 = .ok (.iload_n 2, 1) := by decide +kernel
theorem dX10_grow_59 : decode cX10_grow 59 = .ok (.iaload, 1) := by decide +kernel
theorem dX10_grow_60 : decode cX10_grow 60 = .ok (.istore 4, 2) := by decide +kernel
theorem dX10_grow_62 : decode cX10_grow 62 = .ok (.iinc 2 1, 3) := by decide +kernel
theorem dX10_grow_65 : decode cX10_grow 65 = .ok (.iconst 0, 1) := by decide +kernel
theorem dX10_grow_66 : decode cX10_grow 66 = .ok (.istore 5, 2) := by decide +kernel
theorem dX10_grow_68 : decode cX10_grow 68 = .ok (.iload 5, 2) := by decide +kernel
theorem dX10_grow_70 : decode cX10_grow 70 = .ok (.aload_n 0, 1) := by decide +kernel
theorem dX10_grow_71 : decode cX10_grow 71 = .ok (.getfield 99, 3) := by decide +kernel
theorem dX10_grow_74 : decode cX10_grow 74 = .ok (.if_icmp .ge 101, 3) := by decide +kernel
theorem dX10_grow_77 : decode cX10_grow 77 = .ok (.aload_n 0, 1) := by decide +kernel
theorem dX10_grow_78 : decode cX10_grow 78 = .ok (.getfield 19, 3) := by decide +kernel
theorem dX10_grow_81 : decode cX10_grow 81 = .ok (.iload 5, 2) := by decide +kernel
theorem dX10_grow_83 : decode cX10_grow 83 = .ok (.iaload, 1) := by decide +kernel
theorem dX10_grow_84 : decode cX10_grow 84 = .ok (.ifCond .ge 14, 3) := by decide +kernel
theorem dX10_grow_87 : decode cX10_grow 87 = .ok (.aload_n 0, 1) := by decide +kernel
theorem dX10_grow_88 : decode cX10_grow 88 = .ok (.iload 4, 2) := by decide +kernel
theorem dX10_grow_90 : decode cX10_grow 90 = .ok (.iload 5, 2) := by decide +kernel
theorem dX10_grow_92 : decode cX10_grow 92 = .ok (.invokevirtual 119, 3) := by decide +kernel
theorem dX10_grow_95 : decode cX10_grow 95 = .ok (.goto 4, 3) := by decide +kernel
theorem dX10_grow_98 : decode cX10_grow 98 = .ok (.iconst (-1), 1) := by decide +kernel
theorem dX10_grow_99 : decode cX10_grow 99 = .ok (.istore 6, 2) := by decide +kernel
theorem dX10_grow_101 : decode cX10_grow 101 = .ok (.iload 6, 2) := by decide +kernel
theorem dX10_grow_103 : decode cX10_grow 103 = .ok (.ifCond .lt 66, 3) := by decide +kernel
theorem dX10_grow_106 : decode cX10_grow 106 = .ok (.aload_n 0, 1) := by decide +kernel
theorem dX10_grow_107 : decode cX10_grow 107 = .ok (.getfield 19, 3) := by decide +kernel
theorem dX10_grow_110 : decode cX10_grow 110 = .ok (.iload 5, 2) := by decide +kernel
theorem dX10_grow_112 : decode cX10_grow 112 = .ok (.iload_n 1, 1) := by decide +kernel
theorem dX10_grow_113 : decode cX10_grow 113 = .ok (.iastore, 1) := by decide +kernel
theorem dX10_grow_114 : decode cX10_grow 114 = .ok (.aload_n 0, 1) := by decide +kernel
theorem dX10_grow_115 : decode cX10_grow 115 = .ok (.getfield 16, 3) := by decide +kernel
theorem dX10_grow_118 : decode cX10_grow 118 = .ok (.iload 5, 2) := by decide +kernel
theorem dX10_grow_120 : decode cX10_grow 120 = .ok (.iload 4, 2) := by decide +kernel
theorem dX10_grow_122 : decode cX10_grow 122 = .ok (.iastore, 1) := by decide +kernel
theorem dX10_grow_123 : decode cX10_grow 123 = .ok (.aload_n 0, 1) := by decide +kernel
theorem dX10_grow_124 : decode cX10_grow 124 = .ok (.getfield 22, 3) := by decide +kernel
theorem dX10_grow_127 : decode cX10_grow 127 = .ok (.iload 5, 2) := by decide +kernel
theorem dX10_grow_129 : decode cX10_grow 129 = .ok (.aload_n 0, 1) := by decide +kernel
theorem dX10_grow_130 : decode cX10_grow 130 = .ok (.getfield 22, 3) := by decide +kernel
theorem dX10_grow_133 : decode cX10_grow 133 = .ok (.iload 4, 2) := by decide +kernel
theorem dX10_grow_135 : decode cX10_grow 135 = .ok (.iaload, 1) := by decide +kernel
theorem dX10_grow_136 : decode cX10_grow 136 = .ok (.iconst 1, 1) := by decide +kernel
theorem dX10_grow_137 : decode cX10_grow 137 = .ok (.iadd, 1) := by decide +kernel
theorem dX10_grow_138 : decode cX10_grow 138 = .ok (.iastore, 1) := by decide +kernel
theorem dX10_grow_139 : decode cX10_grow 139 = .ok (.aload_n 0, 1) := by decide +kernel
theorem dX10_grow_140 : decode cX10_grow 140 = .ok (.getfield 25, 3) := by decide +kernel
theorem dX10_grow_143 : decode cX10_grow 143 = .ok (.iload 5, 2) := by decide +kernel
theorem dX10_grow_145 : decode cX10_grow 145 = .ok (.iload 6, 2) := by decide +kernel
theorem dX10_grow_147 : decode cX10_grow 147 = .ok (.iastore, 1) := by decide +kernel
theorem dX10_grow_148 : decode cX10_grow 148 = .ok (.aload_n 0, 1) := by decide +kernel
theorem dX10_grow_149 : decode cX10_grow 149 = .ok (.dup, 1) := by decide +kernel
theorem dX10_grow_150 : decode cX10_grow 150 = .ok (.getfield 129, 3) := by decide +kernel
theorem dX10_grow_153 : decode cX10_grow 153 = .ok (.iconst 1, 1) := by decide +kernel
theorem dX10_grow_154 : decode cX10_grow 154 = .ok (.iadd, 1) := by decide +kernel
theorem dX10_grow_155 : decode cX10_grow 155 = .ok (.putfield 129, 3) := by decide +kernel
theorem dX10_grow_158 : decode cX10_grow 158 = .ok (.aload_n 0, 1) := by decide +kernel
theorem dX10_grow_159 : decode cX10_grow 159 = .ok (.getfield 28, 3) := by decide +kernel
theorem dX10_grow_162 : decode cX10_grow 162 = .ok (.iload_n 3, 1) := by decide +kernel
theorem dX10_grow_163 : decode cX10_grow 163 = .ok (.iload 5, 2) := by decide +kernel
theorem dX10_grow_165 : decode cX10_grow 165 = .ok (.iastore, 1) := by decide +kernel
theorem dX10_grow_166 : decode cX10_grow 166 = .ok (.iinc 3 1, 3) := by decide +kernel
theorem dX10_grow_169 : decode cX10_grow 169 = .ok (.iinc 5 1, 3) := by decide +kernel
theorem dX10_grow_172 : decode cX10_grow 172 = .ok (.goto (-104), 3) := by decide +kernel
theorem dX10_grow_175 : decode cX10_grow 175 = .ok (.goto (-126), 3) := by decide +kernel
theorem dX10_grow_178 : decode cX10_grow 178 = .ok (.return_, 1) := by decide +kernel
theorem wMd_grow_99 (l : Launch) (G : zG) (k68 : Int32 → Int32 → Int32 → Int32 → Int32 → zM → Option (Unit × zM)) (hk68 : ∀ (v1 : Int32) (v2 : Int32) (v3 : Int32) (v4 : Int32) (v5 : Int32) (M : zM), zV eV l G zLY zRY 2 yX10_grow cX10_grow 7 none 68 [(0, .ref 0), (1, .int v1), (2, .int v2), (3, .int v3), (4, .int v4), (5, .int v5)] [] M (k68 v1 v2 v3 v4 v5 M)) (v1 : Int32) (v2 : Int32) (v3 : Int32) (v4 : Int32) (v5 : Int32) (vs0 : Int32) (M : zM) : zV eV l G zLY zRY 2 yX10_grow cX10_grow 7 none 99 [(0, .ref 0), (1, .int v1), (2, .int v2), (3, .int v3), (4, .int v4), (5, .int v5)] [.int vs0] M (fMd_grow_99 k68 v1 v2 v3 v4 v5 vs0 M) := by
  rw [fMd_grow_99]
  refine v_istore (pc := 99) dX10_grow_99 (by decide) ?_
  refine v_iload (pc := 101) dX10_grow_101 rfl ?_
  refine v_if_lt (pc := 103) 169 dX10_grow_103 (by decide) ?_ ?_
  · refine v_iinc (pc := 169) 1 dX10_grow_169 rfl (by decide) (by decide) ?_
    refine v_goto (pc := 172) 68 dX10_grow_172 (by decide) ?_
    exact v_sub (hk68 v1 v2 v3 v4 (v5 + 1) M) rfl
  · refine v_aload_n (pc := 106) dX10_grow_106 rfl ?_
    refine v_getR (pc := 107) (q := 5) zk10 ly_0 rfl ry_0_5 tw_1031 dX10_grow_107 ?_
    refine v_iload (pc := 110) dX10_grow_110 rfl ?_
    refine v_iload_n (pc := 112) dX10_grow_112 rfl ?_
    refine v_iast (pc := 113) ly_4 dX10_grow_113 (fun M1 => ?_)
    refine v_aload_n (pc := 114) dX10_grow_114 rfl ?_
    refine v_getR (pc := 115) (q := 4) zk10 ly_0 rfl ry_0_4 tw_1030 dX10_grow_115 ?_
    refine v_iload (pc := 118) dX10_grow_118 rfl ?_
    refine v_iload (pc := 120) dX10_grow_120 rfl ?_
    refine v_iast (pc := 122) ly_3 dX10_grow_122 (fun M2 => ?_)
    refine v_aload_n (pc := 123) dX10_grow_123 rfl ?_
    refine v_getR (pc := 124) (q := 6) zk10 ly_0 rfl ry_0_6 tw_1032 dX10_grow_124 ?_
    refine v_iload (pc := 127) dX10_grow_127 rfl ?_
    refine v_aload_n (pc := 129) dX10_grow_129 rfl ?_
    refine v_getR (pc := 130) (q := 6) zk10 ly_0 rfl ry_0_6 tw_1032 dX10_grow_130 ?_
    refine v_iload (pc := 133) dX10_grow_133 rfl ?_
    refine v_iald (pc := 135) ly_5 dX10_grow_135 (fun x3 => ?_)
    refine v_iconst (pc := 136) 1 dX10_grow_136 (by decide) ?_
    refine v_iadd (pc := 137) dX10_grow_137 ?_
    refine v_iast (pc := 138) ly_5 dX10_grow_138 (fun M4 => ?_)
    refine v_aload_n (pc := 139) dX10_grow_139 rfl ?_
    refine v_getR (pc := 140) (q := 7) zk10 ly_0 rfl ry_0_7 tw_1033 dX10_grow_140 ?_
    refine v_iload (pc := 143) dX10_grow_143 rfl ?_
    refine v_iload (pc := 145) dX10_grow_145 rfl ?_
    refine v_iast (pc := 147) ly_6 dX10_grow_147 (fun M5 => ?_)
    refine v_aload_n (pc := 148) dX10_grow_148 rfl ?_
    refine v_dup (pc := 149) dX10_grow_149 rfl ?_
    refine v_getI (pc := 150) (q := 10) zk10 ly_0 rfl tw_1036 dX10_grow_150 ?_
    refine v_iconst (pc := 153) 1 dX10_grow_153 (by decide) ?_
    refine v_iadd (pc := 154) dX10_grow_154 ?_
    refine v_putI (pc := 155) (q := 10) zk10 ly_0 rfl tw_1036 rfl rfl rfl dX10_grow_155 (fun M6 => ?_)
    refine v_aload_n (pc := 158) dX10_grow_158 rfl ?_
    refine v_getR (pc := 159) (q := 8) zk10 ly_0 rfl ry_0_8 tw_1034 dX10_grow_159 ?_
    refine v_iload_n (pc := 162) dX10_grow_162 rfl ?_
    refine v_iload (pc := 163) dX10_grow_163 rfl ?_
    refine v_iast (pc := 165) ly_7 dX10_grow_165 (fun M7 => ?_)
    refine v_iinc (pc := 166) 1 dX10_grow_166 rfl (by decide) (by decide) ?_
    refine v_iinc (pc := 169) 1 dX10_grow_169 rfl (by decide) (by decide) ?_
    refine v_goto (pc := 172) 68 dX10_grow_172 (by decide) ?_
    exact v_sub (hk68 v1 v2 (v3 + 1) v4 (v5 + 1) M7) rfl
theorem wMd_grow_68 (l : Launch) (G : zG) (k49 : Int32 → Int32 → Int32 → zM → Option (Unit × zM)) (hk49 : ∀ (v1 : Int32) (v2 : Int32) (v3 : Int32) (M : zM), zV eV l G zLY zRY 2 yX10_grow cX10_grow 7 none 49 [(0, .ref 0), (1, .int v1), (2, .int v2), (3, .int v3)] [] M (k49 v1 v2 v3 M)) : ∀ (fuel : Nat) (v1 : Int32) (v2 : Int32) (v3 : Int32) (v4 : Int32) (v5 : Int32) (M : zM), zV eV l G zLY zRY 2 yX10_grow cX10_grow 7 none 68 [(0, .ref 0), (1, .int v1), (2, .int v2), (3, .int v3), (4, .int v4), (5, .int v5)] [] M (fMd_grow_68 k49 fuel v1 v2 v3 v4 v5 M) := by
  intro fuel
  induction fuel with
  | zero => intro v1 v2 v3 v4 v5 M; exact v_none
  | succ fuel ih =>
    intro v1 v2 v3 v4 v5 M
    rw [fMd_grow_68]
    refine v_iload (pc := 68) dX10_grow_68 rfl ?_
    refine v_aload_n (pc := 70) dX10_grow_70 rfl ?_
    refine v_getI (pc := 71) (q := 0) zk10 ly_0 rfl tw_1026 dX10_grow_71 ?_
    refine v_icmp_ge (pc := 74) 175 dX10_grow_74 (by decide) ?_ ?_
    · refine v_goto (pc := 175) 49 dX10_grow_175 (by decide) ?_
      exact v_sub (hk49 v1 v2 v3 M) rfl
    · refine v_aload_n (pc := 77) dX10_grow_77 rfl ?_
      refine v_getR (pc := 78) (q := 5) zk10 ly_0 rfl ry_0_5 tw_1031 dX10_grow_78 ?_
      refine v_iload (pc := 81) dX10_grow_81 rfl ?_
      refine v_iald (pc := 83) ly_4 dX10_grow_83 (fun x1 => ?_)
      refine v_if_ge (pc := 84) 98 dX10_grow_84 (by decide) ?_ ?_
      · refine v_iconst (pc := 98) (-1) dX10_grow_98 (by decide) ?_
        exact v_sub (wMd_grow_99 l G (fMd_grow_68 k49 fuel) ih v1 v2 v3 v4 v5 (-1) M) rfl
      · refine v_aload_n (pc := 87) dX10_grow_87 rfl ?_
        refine v_iload (pc := 88) dX10_grow_88 rfl ?_
        refine v_iload (pc := 90) dX10_grow_90 rfl ?_
        refine v_callV (pc := 92) (As := [.int v4, .int v5]) (cMd_lineOf l G v4 v5 M) zc_X10_lineOf zk10 rfl ly_0 tw_1168 (by decide) (Nat.le_of_ble_eq_true rfl) dX10_grow_92 (fun r3 M2 => ?_)
        refine v_goto (pc := 95) 99 dX10_grow_95 (by decide) ?_
        exact v_sub (wMd_grow_99 l G (fMd_grow_68 k49 fuel) ih v1 v2 v3 v4 v5 r3 M2) rfl
theorem wMd_grow_49 (l : Launch) (G : zG) : ∀ (fuel : Nat) (v1 : Int32) (v2 : Int32) (v3 : Int32) (M : zM), zV eV l G zLY zRY 2 yX10_grow cX10_grow 7 none 49 [(0, .ref 0), (1, .int v1), (2, .int v2), (3, .int v3)] [] M (fMd_grow_49 fuel v1 v2 v3 M) := by
  intro fuel
  induction fuel with
  | zero => intro v1 v2 v3 M; exact v_none
  | succ fuel ih =>
    intro v1 v2 v3 M
    rw [fMd_grow_49]
    refine v_iload_n (pc := 49) dX10_grow_49 rfl ?_
    refine v_iload_n (pc := 50) dX10_grow_50 rfl ?_
    refine v_icmp_ge (pc := 51) 178 dX10_grow_51 (by decide) ?_ ?_
    · exact v_vret (pc := 178) dX10_grow_178
    · refine v_aload_n (pc := 54) dX10_grow_54 rfl ?_
      refine v_getR (pc := 55) (q := 8) zk10 ly_0 rfl ry_0_8 tw_1034 dX10_grow_55 ?_
      refine v_iload_n (pc := 58) dX10_grow_58 rfl ?_
      refine v_iald (pc := 59) ly_7 dX10_grow_59 (fun x1 => ?_)
      refine v_istore (pc := 60) dX10_grow_60 (by decide) ?_
      refine v_iinc (pc := 62) 1 dX10_grow_62 rfl (by decide) (by decide) ?_
      refine v_iconst (pc := 65) 0 dX10_grow_65 (by decide) ?_
      refine v_istore (pc := 66) dX10_grow_66 (by decide) ?_
      exact v_sub (wMd_grow_68 l G (fMd_grow_49 fuel) ih FU v1 (v2 + 1) v3 x1 0 M) rfl
theorem wMd_grow (l : Launch) (G : zG) (v1 : Int32) (M : zM) : zV eV l G zLY zRY 2 yX10_grow cX10_grow 7 none 0 [(0, .ref 0), (1, .int v1)] [] M (fMd_grow v1 M) := by
  rw [fMd_grow]
  refine v_aload_n (pc := 0) dX10_grow_0 rfl ?_
  refine v_dup (pc := 1) dX10_grow_1 rfl ?_
  refine v_getI (pc := 2) (q := 9) zk10 ly_0 rfl tw_1035 dX10_grow_2 ?_
  refine v_iconst (pc := 5) 1 dX10_grow_5 (by decide) ?_
  refine v_iadd (pc := 6) dX10_grow_6 ?_
  refine v_putI (pc := 7) (q := 9) zk10 ly_0 rfl tw_1035 rfl rfl rfl dX10_grow_7 (fun M1 => ?_)
  refine v_aload_n (pc := 10) dX10_grow_10 rfl ?_
  refine v_getR (pc := 11) (q := 5) zk10 ly_0 rfl ry_0_5 tw_1031 dX10_grow_11 ?_
  refine v_iload_n (pc := 14) dX10_grow_14 rfl ?_
  refine v_iload_n (pc := 15) dX10_grow_15 rfl ?_
  refine v_iast (pc := 16) ly_4 dX10_grow_16 (fun M2 => ?_)
  refine v_aload_n (pc := 17) dX10_grow_17 rfl ?_
  refine v_getR (pc := 18) (q := 4) zk10 ly_0 rfl ry_0_4 tw_1030 dX10_grow_18 ?_
  refine v_iload_n (pc := 21) dX10_grow_21 rfl ?_
  refine v_iconst (pc := 22) (-1) dX10_grow_22 (by decide) ?_
  refine v_iast (pc := 23) ly_3 dX10_grow_23 (fun M3 => ?_)
  refine v_aload_n (pc := 24) dX10_grow_24 rfl ?_
  refine v_getR (pc := 25) (q := 6) zk10 ly_0 rfl ry_0_6 tw_1032 dX10_grow_25 ?_
  refine v_iload_n (pc := 28) dX10_grow_28 rfl ?_
  refine v_iconst (pc := 29) 0 dX10_grow_29 (by decide) ?_
  refine v_iast (pc := 30) ly_5 dX10_grow_30 (fun M4 => ?_)
  refine v_aload_n (pc := 31) dX10_grow_31 rfl ?_
  refine v_getR (pc := 32) (q := 7) zk10 ly_0 rfl ry_0_7 tw_1033 dX10_grow_32 ?_
  refine v_iload_n (pc := 35) dX10_grow_35 rfl ?_
  refine v_iconst (pc := 36) (-1) dX10_grow_36 (by decide) ?_
  refine v_iast (pc := 37) ly_6 dX10_grow_37 (fun M5 => ?_)
  refine v_aload_n (pc := 38) dX10_grow_38 rfl ?_
  refine v_getR (pc := 39) (q := 8) zk10 ly_0 rfl ry_0_8 tw_1034 dX10_grow_39 ?_
  refine v_iconst (pc := 42) 0 dX10_grow_42 (by decide) ?_
  refine v_iload_n (pc := 43) dX10_grow_43 rfl ?_
  refine v_iast (pc := 44) ly_7 dX10_grow_44 (fun M6 => ?_)
  refine v_iconst (pc := 45) 0 dX10_grow_45 (by decide) ?_
  refine v_istore_n (pc := 46) dX10_grow_46 (by decide) ?_
  refine v_iconst (pc := 47) 1 dX10_grow_47 (by decide) ?_
  refine v_istore_n (pc := 48) dX10_grow_48 (by decide) ?_
  exact v_sub (wMd_grow_49 l G FU v1 0 1 M6) rfl
theorem cMd_grow (l : Launch) (G : zG) (v1 : Int32) (M : zM) : zC eV l G zLY zRY 2 yX10_grow cX10_grow 7 none [.ref 0, .int v1] M (fMd_grow v1 M) := zC.of (by decide) (Nat.le_of_ble_eq_true rfl) (v_sub (wMd_grow l G v1 M) rfl)
theorem dX10_findTree_0 : decode cX10_findTree 0 = .ok (.iconst 0, 1) := by decide +kernel
theorem dX10_findTree_1 : decode cX10_findTree 1 = .ok (.istore_n 1, 1) := by decide +kernel
theorem dX10_findTree_2 : decode cX10_findTree 2 = .ok (.iload_n 1, 1) := by decide +kernel
theorem dX10_findTree_3 : decode cX10_findTree 3 = .ok (.aload_n 0, 1) := by decide +kernel
theorem dX10_findTree_4 : decode cX10_findTree 4 = .ok (.getfield 99, 3) := by decide +kernel
theorem dX10_findTree_7 : decode cX10_findTree 7 = .ok (.if_icmp .ge 16, 3) := by decide +kernel
theorem dX10_findTree_10 : decode cX10_findTree 10 = .ok (.aload_n 0, 1) := by decide +kernel
theorem dX10_findTree_11 : decode cX10_findTree 11 = .ok (.getfield 19, 3) := by decide +kernel
theorem dX10_findTree_14 : decode cX10_findTree 14 = .ok (.iload_n 1, 1) := by decide +kernel
theorem dX10_findTree_15 : decode cX10_findTree 15 = .ok (.iconst (-1), 1) := by decide +kernel
theorem dX10_findTree_16 : decode cX10_findTree 16 = .ok (.iastore, 1) := by decide +kernel
theorem dX10_findTree_17 : decode cX10_findTree 17 = .ok (.iinc 1 1, 3) := by decide +kernel
theorem dX10_findTree_20 : decode cX10_findTree 20 = .ok (.goto (-18), 3) := by decide +kernel
theorem dX10_findTree_23 : decode cX10_findTree 23 = .ok (.aload_n 0, 1) := by decide +kernel
theorem dX10_findTree_24 : decode cX10_findTree 24 = .ok (.iconst 0, 1) := by decide +kernel
theorem dX10_findTree_25 : decode cX10_findTree 25 = .ok (.putfield 126, 3) := by decide +kernel
theorem dX10_findTree_28 : decode cX10_findTree 28 = .ok (.aload_n 0, 1) := by decide +kernel
theorem dX10_findTree_29 : decode cX10_findTree 29 = .ok (.iconst 0, 1) := by decide +kernel
theorem dX10_findTree_30 : decode cX10_findTree 30 = .ok (.putfield 129, 3) := by decide +kernel
theorem dX10_findTree_33 : decode cX10_findTree 33 = .ok (.iconst 0, 1) := by decide +kernel
theorem dX10_findTree_34 : decode cX10_findTree 34 = .ok (.istore_n 1, 1) := by decide +kernel
theorem dX10_findTree_35 : decode cX10_findTree 35 = .ok (.iload_n 1, 1) := by decide +kernel
theorem dX10_findTree_36 : decode cX10_findTree 36 = .ok (.aload_n 0, 1) := by decide +kernel
theorem dX10_findTree_37 : decode cX10_findTree 37 = .ok (.getfield 99, 3) := by decide +kernel
theorem dX10_findTree_40 : decode cX10_findTree 40 = .ok (.if_icmp .ge 23, 3) := by decide +kernel
theorem dX10_findTree_43 : decode cX10_findTree 43 = .ok (.aload_n 0, 1) := by decide +kernel
theorem dX10_findTree_44 : decode cX10_findTree 44 = .ok (.getfield 19, 3) := by decide +kernel
theorem dX10_findTree_47 : decode cX10_findTree 47 = .ok (.iload_n 1, 1) := by decide +kernel
theorem dX10_findTree_48 : decode cX10_findTree 48 = .ok (.iaload, 1) := by decide +kernel
theorem dX10_findTree_49 : decode cX10_findTree 49 = .ok (.ifCond .ge 8, 3) := by decide +kernel
theorem dX10_findTree_52 : decode cX10_findTree 52 = .ok (.aload_n 0, 1) := by decide +kernel
theorem dX10_findTree_53 : decode cX10_findTree 53 = .ok (.iload_n 1, 1) := by decide +kernel
theorem dX10_findTree_54 : decode cX10_findTree 54 = .ok (.invokevirtual 132, 3) := by decide +kernel
theorem dX10_findTree_57 : decode cX10_findTree 57 = .ok (.iinc 1 1, 3) := by decide +kernel
theorem dX10_findTree_60 : decode cX10_findTree 60 = .ok (.goto (-25), 3) := by decide +kernel
theorem dX10_findTree_63 : decode cX10_findTree 63 = .ok (.return_, 1) := by decide +kernel
theorem wMd_findTree_35 (l : Launch) (G : zG) : ∀ (fuel : Nat) (v1 : Int32) (M : zM), zV eV l G zLY zRY 3 yX10_findTree cX10_findTree 2 none 35 [(0, .ref 0), (1, .int v1)] [] M (fMd_findTree_35 fuel v1 M) := by
  intro fuel
  induction fuel with
  | zero => intro v1 M; exact v_none
  | succ fuel ih =>
    intro v1 M
    rw [fMd_findTree_35]
    refine v_iload_n (pc := 35) dX10_findTree_35 rfl ?_
    refine v_aload_n (pc := 36) dX10_findTree_36 rfl ?_
    refine v_getI (pc := 37) (q := 0) zk10 ly_0 rfl tw_1026 dX10_findTree_37 ?_
    refine v_icmp_ge (pc := 40) 63 dX10_findTree_40 (by decide) ?_ ?_
    · exact v_vret (pc := 63) dX10_findTree_63
    · refine v_aload_n (pc := 43) dX10_findTree_43 rfl ?_
      refine v_getR (pc := 44) (q := 5) zk10 ly_0 rfl ry_0_5 tw_1031 dX10_findTree_44 ?_
      refine v_iload_n (pc := 47) dX10_findTree_47 rfl ?_
      refine v_iald (pc := 48) ly_4 dX10_findTree_48 (fun x1 => ?_)
      refine v_if_ge (pc := 49) 57 dX10_findTree_49 (by decide) ?_ ?_
      · refine v_iinc (pc := 57) 1 dX10_findTree_57 rfl (by decide) (by decide) ?_
        refine v_goto (pc := 60) 35 dX10_findTree_60 (by decide) ?_
        exact v_sub (ih (v1 + 1) M) rfl
      · refine v_aload_n (pc := 52) dX10_findTree_52 rfl ?_
        refine v_iload_n (pc := 53) dX10_findTree_53 rfl ?_
        refine v_callV (pc := 54) (As := [.int v1]) (cMd_grow l G v1 M) zc_X10_grow zk10 rfl ly_0 tw_1188 (by decide) (Nat.le_of_ble_eq_true rfl) dX10_findTree_54 (fun _ M2 => ?_)
        skip
        refine v_iinc (pc := 57) 1 dX10_findTree_57 rfl (by decide) (by decide) ?_
        refine v_goto (pc := 60) 35 dX10_findTree_60 (by decide) ?_
        exact v_sub (ih (v1 + 1) M2) rfl
theorem wMd_findTree_2 (l : Launch) (G : zG) : ∀ (fuel : Nat) (v1 : Int32) (M : zM), zV eV l G zLY zRY 3 yX10_findTree cX10_findTree 2 none 2 [(0, .ref 0), (1, .int v1)] [] M (fMd_findTree_2 fuel v1 M) := by
  intro fuel
  induction fuel with
  | zero => intro v1 M; exact v_none
  | succ fuel ih =>
    intro v1 M
    rw [fMd_findTree_2]
    refine v_iload_n (pc := 2) dX10_findTree_2 rfl ?_
    refine v_aload_n (pc := 3) dX10_findTree_3 rfl ?_
    refine v_getI (pc := 4) (q := 0) zk10 ly_0 rfl tw_1026 dX10_findTree_4 ?_
    refine v_icmp_ge (pc := 7) 23 dX10_findTree_7 (by decide) ?_ ?_
    · refine v_aload_n (pc := 23) dX10_findTree_23 rfl ?_
      refine v_iconst (pc := 24) 0 dX10_findTree_24 (by decide) ?_
      refine v_putI (pc := 25) (q := 9) zk10 ly_0 rfl tw_1035 rfl rfl rfl dX10_findTree_25 (fun M1 => ?_)
      refine v_aload_n (pc := 28) dX10_findTree_28 rfl ?_
      refine v_iconst (pc := 29) 0 dX10_findTree_29 (by decide) ?_
      refine v_putI (pc := 30) (q := 10) zk10 ly_0 rfl tw_1036 rfl rfl rfl dX10_findTree_30 (fun M2 => ?_)
      refine v_iconst (pc := 33) 0 dX10_findTree_33 (by decide) ?_
      refine v_istore_n (pc := 34) dX10_findTree_34 (by decide) ?_
      exact v_sub (wMd_findTree_35 l G FU 0 M2) rfl
    · refine v_aload_n (pc := 10) dX10_findTree_10 rfl ?_
      refine v_getR (pc := 11) (q := 5) zk10 ly_0 rfl ry_0_5 tw_1031 dX10_findTree_11 ?_
      refine v_iload_n (pc := 14) dX10_findTree_14 rfl ?_
      refine v_iconst (pc := 15) (-1) dX10_findTree_15 (by decide) ?_
      refine v_iast (pc := 16) ly_4 dX10_findTree_16 (fun M3 => ?_)
      refine v_iinc (pc := 17) 1 dX10_findTree_17 rfl (by decide) (by decide) ?_
      refine v_goto (pc := 20) 2 dX10_findTree_20 (by decide) ?_
      exact v_sub (ih (v1 + 1) M3) rfl
theorem wMd_findTree (l : Launch) (G : zG)  (M : zM) : zV eV l G zLY zRY 3 yX10_findTree cX10_findTree 2 none 0 [(0, .ref 0)] [] M (fMd_findTree  M) := by
  rw [fMd_findTree]
  refine v_iconst (pc := 0) 0 dX10_findTree_0 (by decide) ?_
  refine v_istore_n (pc := 1) dX10_findTree_1 (by decide) ?_
  exact v_sub (wMd_findTree_2 l G FU 0 M) rfl
theorem cMd_findTree (l : Launch) (G : zG)  (M : zM) : zC eV l G zLY zRY 3 yX10_findTree cX10_findTree 2 none [.ref 0] M (fMd_findTree  M) := zC.of (by decide) (Nat.le_of_ble_eq_true rfl) (v_sub (wMd_findTree l G  M) rfl)
theorem dX10_isTreeLine_0 : decode cX10_isTreeLine 0 = .ok (.iconst 0, 1) := by decide +kernel
theorem dX10_isTreeLine_1 : decode cX10_isTreeLine 1 = .ok (.istore_n 2, 1) := by decide +kernel
theorem dX10_isTreeLine_2 : decode cX10_isTreeLine 2 = .ok (.iconst 0, 1) := by decide +kernel
theorem dX10_isTreeLine_3 : decode cX10_isTreeLine 3 = .ok (.istore_n 3, 1) := by decide +kernel
theorem dX10_isTreeLine_4 : decode cX10_isTreeLine 4 = .ok (.iload_n 3, 1) := by decide +kernel
theorem dX10_isTreeLine_5 : decode cX10_isTreeLine 5 = .ok (.aload_n 0, 1) := by decide +kernel
theorem dX10_isTreeLine_6 : decode cX10_isTreeLine 6 = .ok (.getfield 99, 3) := by decide +kernel
theorem dX10_isTreeLine_9 : decode cX10_isTreeLine 9 = .ok (.if_icmp .ge 29, 3) := by decide +kernel
theorem dX10_isTreeLine_12 : decode cX10_isTreeLine 12 = .ok (.iload_n 2, 1) := by decide +kernel
theorem dX10_isTreeLine_13 : decode cX10_isTreeLine 13 = .ok (.ifCond .ne 13, 3) := by decide +kernel
theorem dX10_isTreeLine_16 : decode cX10_isTreeLine 16 = .ok (.aload_n 0, 1) := by decide +kernel
theorem dX10_isTreeLine_17 : decode cX10_isTreeLine 17 = .ok (.getfield 25, 3) := by decide +kernel
theorem dX10_isTreeLine_20 : decode cX10_isTreeLine 20 = .ok (.iload_n 3, 1) := by decide +kernel
theorem dX10_isTreeLine_21 : decode cX10_isTreeLine 21 = .ok (.iaload, 1) := by decide +kernel
theorem dX10_isTreeLine_22 : decode cX10_isTreeLine 22 = .ok (.iload_n 1, 1) := by decide +kernel
theorem dX10_isTreeLine_23 : decode cX10_isTreeLine 23 = .ok (.if_icmp .ne 7, 3) := by decide +kernel
theorem dX10_isTreeLine_26 : decode cX10_isTreeLine 26 = .ok (.iconst 1, 1) := by decide +kernel
theorem dX10_isTreeLine_27 : decode cX10_isTreeLine 27 = .ok (.goto 4, 3) := by decide +kernel
theorem dX10_isTreeLine_30 : decode cX10_isTreeLine 30 = .ok (.iconst 0, 1) := by decide +kernel
theorem dX10_isTreeLine_31 : decode cX10_isTreeLine 31 = .ok (.istore_n 2, 1) := by decide +kernel
theorem dX10_isTreeLine_32 : decode cX10_isTreeLine 32 = .ok (.iinc 3 1, 3) := by decide +kernel
theorem dX10_isTreeLine_35 : decode cX10_isTreeLine 35 = .ok (.goto (-31), 3) := by decide +kernel
theorem dX10_isTreeLine_38 : decode cX10_isTreeLine 38 = .ok (.iload_n 2, 1) := by decide +kernel
theorem dX10_isTreeLine_39 : decode cX10_isTreeLine 39 = .ok (.ireturn, 1) := by decide +kernel
theorem wMd_isTreeLine_4 (l : Launch) (G : zG) : ∀ (fuel : Nat) (v1 : Int32) (v2 : Int32) (v3 : Int32) (M : zM), zV eI l G zLY zRY 1 yX10_isTreeLine cX10_isTreeLine 4 (some .boolean) 4 [(0, .ref 0), (1, .int v1), (2, .int v2), (3, .int v3)] [] M (fMd_isTreeLine_4 fuel v1 v2 v3 M) := by
  intro fuel
  induction fuel with
  | zero => intro v1 v2 v3 M; exact v_none
  | succ fuel ih =>
    intro v1 v2 v3 M
    rw [fMd_isTreeLine_4]
    refine v_iload_n (pc := 4) dX10_isTreeLine_4 rfl ?_
    refine v_aload_n (pc := 5) dX10_isTreeLine_5 rfl ?_
    refine v_getI (pc := 6) (q := 0) zk10 ly_0 rfl tw_1026 dX10_isTreeLine_6 ?_
    refine v_icmp_ge (pc := 9) 38 dX10_isTreeLine_9 (by decide) ?_ ?_
    · refine v_iload_n (pc := 38) dX10_isTreeLine_38 rfl ?_
      exact v_zret (pc := 39) dX10_isTreeLine_39
    · refine v_iload_n (pc := 12) dX10_isTreeLine_12 rfl ?_
      refine v_if_ne (pc := 13) 26 dX10_isTreeLine_13 (by decide) ?_ ?_
      · refine v_iconst (pc := 26) 1 dX10_isTreeLine_26 (by decide) ?_
        refine v_goto (pc := 27) 31 dX10_isTreeLine_27 (by decide) ?_
        refine v_istore_n (pc := 31) dX10_isTreeLine_31 (by decide) ?_
        refine v_iinc (pc := 32) 1 dX10_isTreeLine_32 rfl (by decide) (by decide) ?_
        refine v_goto (pc := 35) 4 dX10_isTreeLine_35 (by decide) ?_
        exact v_sub (ih v1 1 (v3 + 1) M) rfl
      · refine v_aload_n (pc := 16) dX10_isTreeLine_16 rfl ?_
        refine v_getR (pc := 17) (q := 7) zk10 ly_0 rfl ry_0_7 tw_1033 dX10_isTreeLine_17 ?_
        refine v_iload_n (pc := 20) dX10_isTreeLine_20 rfl ?_
        refine v_iald (pc := 21) ly_6 dX10_isTreeLine_21 (fun x1 => ?_)
        refine v_iload_n (pc := 22) dX10_isTreeLine_22 rfl ?_
        refine v_icmp_ne (pc := 23) 30 dX10_isTreeLine_23 (by decide) ?_ ?_
        · refine v_iconst (pc := 30) 0 dX10_isTreeLine_30 (by decide) ?_
          refine v_istore_n (pc := 31) dX10_isTreeLine_31 (by decide) ?_
          refine v_iinc (pc := 32) 1 dX10_isTreeLine_32 rfl (by decide) (by decide) ?_
          refine v_goto (pc := 35) 4 dX10_isTreeLine_35 (by decide) ?_
          exact v_sub (ih v1 0 (v3 + 1) M) rfl
        · refine v_iconst (pc := 26) 1 dX10_isTreeLine_26 (by decide) ?_
          refine v_goto (pc := 27) 31 dX10_isTreeLine_27 (by decide) ?_
          refine v_istore_n (pc := 31) dX10_isTreeLine_31 (by decide) ?_
          refine v_iinc (pc := 32) 1 dX10_isTreeLine_32 rfl (by decide) (by decide) ?_
          refine v_goto (pc := 35) 4 dX10_isTreeLine_35 (by decide) ?_
          exact v_sub (ih v1 1 (v3 + 1) M) rfl
theorem wMd_isTreeLine (l : Launch) (G : zG) (v1 : Int32) (M : zM) : zV eI l G zLY zRY 1 yX10_isTreeLine cX10_isTreeLine 4 (some .boolean) 0 [(0, .ref 0), (1, .int v1)] [] M (fMd_isTreeLine v1 M) := by
  rw [fMd_isTreeLine]
  refine v_iconst (pc := 0) 0 dX10_isTreeLine_0 (by decide) ?_
  refine v_istore_n (pc := 1) dX10_isTreeLine_1 (by decide) ?_
  refine v_iconst (pc := 2) 0 dX10_isTreeLine_2 (by decide) ?_
  refine v_istore_n (pc := 3) dX10_isTreeLine_3 (by decide) ?_
  exact v_sub (wMd_isTreeLine_4 l G FU v1 0 0 M) rfl
theorem cMd_isTreeLine (l : Launch) (G : zG) (v1 : Int32) (M : zM) : zC eI l G zLY zRY 1 yX10_isTreeLine cX10_isTreeLine 4 (some .boolean) [.ref 0, .int v1] M (fMd_isTreeLine v1 M) := zC.of (by decide) (Nat.le_of_ble_eq_true rfl) (v_sub (wMd_isTreeLine l G v1 M) rfl)
theorem dX10_wayUp_0 : decode cX10_wayUp 0 = .ok (.iconst 0, 1) := by decide +kernel
theorem dX10_wayUp_1 : decode cX10_wayUp 1 = .ok (.istore_n 2, 1) := by decide +kernel
theorem dX10_wayUp_2 : decode cX10_wayUp 2 = .ok (.iload_n 1, 1) := by decide +kernel
theorem dX10_wayUp_3 : decode cX10_wayUp 3 = .ok (.istore_n 3, 1) := by decide +kernel
theorem dX10_wayUp_4 : decode cX10_wayUp 4 = .ok (.aload_n 0, 1) := by decide +kernel
theorem dX10_wayUp_5 : decode cX10_wayUp 5 = .ok (.getfield 16, 3) := by decide +kernel
theorem dX10_wayUp_8 : decode cX10_wayUp 8 = .ok (.iload_n 3, 1) := by decide +kernel
theorem dX10_wayUp_9 : decode cX10_wayUp 9 = .ok (.iaload, 1) := by decide +kernel
theorem dX10_wayUp_10 : decode cX10_wayUp 10 = .ok (.ifCond .lt 24, 3) := by decide +kernel
theorem dX10_wayUp_13 : decode cX10_wayUp 13 = .ok (.iload_n 2, 1) := by decide +kernel
theorem dX10_wayUp_14 : decode cX10_wayUp 14 = .ok (.iconst 1, 1) := by decide +kernel
theorem dX10_wayUp_15 : decode cX10_wayUp 15 = .ok (.aload_n 0, 1) := by decide +kernel
theorem dX10_wayUp_16 : decode cX10_wayUp 16 = .ok (.getfield 25, 3) := by decide +kernel
theorem dX10_wayUp_19 : decode cX10_wayUp 19 = .ok (.iload_n 3, 1) := by decide +kernel
theorem dX10_wayUp_20 : decode cX10_wayUp 20 = .ok (.iaload, 1) := by decide +kernel
theorem dX10_wayUp_21 : decode cX10_wayUp 21 = .ok (.ishl, 1) := by decide +kernel
theorem dX10_wayUp_22 : decode cX10_wayUp 22 = .ok (.ior, 1) := by decide +kernel
theorem dX10_wayUp_23 : decode cX10_wayUp 23 = .ok (.istore_n 2, 1) := by decide +kernel
theorem dX10_wayUp_24 : decode cX10_wayUp 24 = .ok (.aload_n 0, 1) := by decide +kernel
theorem dX10_wayUp_25 : decode cX10_wayUp 25 = .ok (.getfield 16, 3) := by decide +kernel
theorem dX10_wayUp_28 : decode cX10_wayUp 28 = .ok (.iload_n 3, 1) := by decide +kernel
theorem dX10_wayUp_29 : decode cX10_wayUp 29 = .ok (.iaload, 1) := by decide +kernel
theorem dX10_wayUp_30 : decode cX10_wayUp 30 = .ok (.istore_n 3, 1) := by decide +kernel
theorem dX10_wayUp_31 : decode cX10_wayUp 31 = .ok (.goto (-27), 3) := by decide +kernel
theorem dX10_wayUp_34 : decode cX10_wayUp 34 = .ok (.iload_n 2, 1) := by decide +kernel
theorem dX10_wayUp_35 : decode cX10_wayUp 35 = .ok (.ireturn, 1) := by decide +kernel
theorem wMd_wayUp_4 (l : Launch) (G : zG) : ∀ (fuel : Nat) (v2 : Int32) (v3 : Int32) (M : zM), zV eI l G zLY zRY 1 yX10_wayUp cX10_wayUp 4 (some .int) 4 [(0, .ref 0), (2, .int v2), (3, .int v3)] [] M (fMd_wayUp_4 fuel v2 v3 M) := by
  intro fuel
  induction fuel with
  | zero => intro v2 v3 M; exact v_none
  | succ fuel ih =>
    intro v2 v3 M
    rw [fMd_wayUp_4]
    refine v_aload_n (pc := 4) dX10_wayUp_4 rfl ?_
    refine v_getR (pc := 5) (q := 4) zk10 ly_0 rfl ry_0_4 tw_1030 dX10_wayUp_5 ?_
    refine v_iload_n (pc := 8) dX10_wayUp_8 rfl ?_
    refine v_iald (pc := 9) ly_3 dX10_wayUp_9 (fun x1 => ?_)
    refine v_if_lt (pc := 10) 34 dX10_wayUp_10 (by decide) ?_ ?_
    · refine v_iload_n (pc := 34) dX10_wayUp_34 rfl ?_
      exact v_iret (pc := 35) dX10_wayUp_35
    · refine v_iload_n (pc := 13) dX10_wayUp_13 rfl ?_
      refine v_iconst (pc := 14) 1 dX10_wayUp_14 (by decide) ?_
      refine v_aload_n (pc := 15) dX10_wayUp_15 rfl ?_
      refine v_getR (pc := 16) (q := 7) zk10 ly_0 rfl ry_0_7 tw_1033 dX10_wayUp_16 ?_
      refine v_iload_n (pc := 19) dX10_wayUp_19 rfl ?_
      refine v_iald (pc := 20) ly_6 dX10_wayUp_20 (fun x2 => ?_)
      refine v_ishl (pc := 21) dX10_wayUp_21 ?_
      refine v_ior (pc := 22) dX10_wayUp_22 ?_
      refine v_istore_nL (pc := 23) dX10_wayUp_23 (by decide) (fun u2_23 => ?_)
      refine v_aload_n (pc := 24) dX10_wayUp_24 rfl ?_
      refine v_getR (pc := 25) (q := 4) zk10 ly_0 rfl ry_0_4 tw_1030 dX10_wayUp_25 ?_
      refine v_iload_n (pc := 28) dX10_wayUp_28 rfl ?_
      refine v_iald (pc := 29) ly_3 dX10_wayUp_29 (fun x3 => ?_)
      refine v_istore_n (pc := 30) dX10_wayUp_30 (by decide) ?_
      refine v_goto (pc := 31) 4 dX10_wayUp_31 (by decide) ?_
      exact v_sub (ih u2_23 x3 M) rfl
theorem wMd_wayUp (l : Launch) (G : zG) (v1 : Int32) (M : zM) : zV eI l G zLY zRY 1 yX10_wayUp cX10_wayUp 4 (some .int) 0 [(0, .ref 0), (1, .int v1)] [] M (fMd_wayUp v1 M) := by
  rw [fMd_wayUp]
  refine v_iconst (pc := 0) 0 dX10_wayUp_0 (by decide) ?_
  refine v_istore_n (pc := 1) dX10_wayUp_1 (by decide) ?_
  refine v_iload_n (pc := 2) dX10_wayUp_2 rfl ?_
  refine v_istore_n (pc := 3) dX10_wayUp_3 (by decide) ?_
  exact v_sub (wMd_wayUp_4 l G FU 0 v1 M) rfl
theorem cMd_wayUp (l : Launch) (G : zG) (v1 : Int32) (M : zM) : zC eI l G zLY zRY 1 yX10_wayUp cX10_wayUp 4 (some .int) [.ref 0, .int v1] M (fMd_wayUp v1 M) := zC.of (by decide) (Nat.le_of_ble_eq_true rfl) (v_sub (wMd_wayUp l G v1 M) rfl)
theorem dX10_goDown_0 : decode cX10_goDown 0 = .ok (.iload_n 2, 1) := by decide +kernel
theorem dX10_goDown_1 : decode cX10_goDown 1 = .ok (.istore_n 3, 1) := by decide +kernel
theorem dX10_goDown_2 : decode cX10_goDown 2 = .ok (.iload_n 1, 1) := by decide +kernel
theorem dX10_goDown_3 : decode cX10_goDown 3 = .ok (.istore 4, 2) := by decide +kernel
theorem dX10_goDown_5 : decode cX10_goDown 5 = .ok (.aload_n 0, 1) := by decide +kernel
theorem dX10_goDown_6 : decode cX10_goDown 6 = .ok (.getfield 31, 3) := by decide +kernel
theorem dX10_goDown_9 : decode cX10_goDown 9 = .ok (.iload 4, 2) := by decide +kernel
theorem dX10_goDown_11 : decode cX10_goDown 11 = .ok (.iload_n 3, 1) := by decide +kernel
theorem dX10_goDown_12 : decode cX10_goDown 12 = .ok (.iastore, 1) := by decide +kernel
theorem dX10_goDown_13 : decode cX10_goDown 13 = .ok (.aload_n 0, 1) := by decide +kernel
theorem dX10_goDown_14 : decode cX10_goDown 14 = .ok (.getfield 34, 3) := by decide +kernel
theorem dX10_goDown_17 : decode cX10_goDown 17 = .ok (.iload 4, 2) := by decide +kernel
theorem dX10_goDown_19 : decode cX10_goDown 19 = .ok (.iload_n 3, 1) := by decide +kernel
theorem dX10_goDown_20 : decode cX10_goDown 20 = .ok (.iastore, 1) := by decide +kernel
theorem dX10_goDown_21 : decode cX10_goDown 21 = .ok (.iinc 3 1, 3) := by decide +kernel
theorem dX10_goDown_24 : decode cX10_goDown 24 = .ok (.iconst (-1), 1) := by decide +kernel
theorem dX10_goDown_25 : decode cX10_goDown 25 = .ok (.istore 5, 2) := by decide +kernel
theorem dX10_goDown_27 : decode cX10_goDown 27 = .ok (.iload 4, 2) := by decide +kernel
theorem dX10_goDown_29 : decode cX10_goDown 29 = .ok (.ifCond .lt 122, 3) := by decide +kernel
theorem dX10_goDown_32 : decode cX10_goDown 32 = .ok (.iconst (-1), 1) := by decide +kernel
theorem dX10_goDown_33 : decode cX10_goDown 33 = .ok (.istore 6, 2) := by decide +kernel
theorem dX10_goDown_35 : decode cX10_goDown 35 = .ok (.iload 5, 2) := by decide +kernel
theorem dX10_goDown_37 : decode cX10_goDown 37 = .ok (.iconst 1, 1) := by decide +kernel
theorem dX10_goDown_38 : decode cX10_goDown 38 = .ok (.iadd, 1) := by decide +kernel
theorem dX10_goDown_39 : decode cX10_goDown 39 = .ok (.istore 7, 2) := by decide +kernel
theorem dX10_goDown_41 : decode cX10_goDown 41 = .ok (.iload 7, 2) := by decide +kernel
theorem dX10_goDown_43 : decode cX10_goDown 43 = .ok (.aload_n 0, 1) := by decide +kernel
theorem dX10_goDown_44 : decode cX10_goDown 44 = .ok (.getfield 99, 3) := by decide +kernel
theorem dX10_goDown_47 : decode cX10_goDown 47 = .ok (.if_icmp .ge 34, 3) := by decide +kernel
theorem dX10_goDown_50 : decode cX10_goDown 50 = .ok (.iload 6, 2) := by decide +kernel
theorem dX10_goDown_52 : decode cX10_goDown 52 = .ok (.ifCond .ge 29, 3) := by decide +kernel
theorem dX10_goDown_55 : decode cX10_goDown 55 = .ok (.aload_n 0, 1) := by decide +kernel
theorem dX10_goDown_56 : decode cX10_goDown 56 = .ok (.getfield 16, 3) := by decide +kernel
theorem dX10_goDown_59 : decode cX10_goDown 59 = .ok (.iload 7, 2) := by decide +kernel
theorem dX10_goDown_61 : decode cX10_goDown 61 = .ok (.iaload, 1) := by decide +kernel
theorem dX10_goDown_62 : decode cX10_goDown 62 = .ok (.iload 4, 2) := by decide +kernel
theorem dX10_goDown_64 : decode cX10_goDown 64 = .ok (.if_icmp .ne 8, 3) := by decide +kernel
theorem dX10_goDown_67 : decode cX10_goDown 67 = .ok (.iload 7, 2) := by decide +kernel
theorem dX10_goDown_69 : decode cX10_goDown 69 = .ok (.goto 4, 3) := by decide +kernel
theorem dX10_goDown_72 : decode cX10_goDown 72 = .ok (.iconst (-1), 1) := by decide +kernel
theorem dX10_goDown_73 : decode cX10_goDown 73 = .ok (.istore 6, 2) := by decide +kernel
theorem dX10_goDown_75 : decode cX10_goDown 75 = .ok (.iinc 7 1, 3) := by decide +kernel
theorem dX10_goDown_78 : decode cX10_goDown 78 = .ok (.goto (-37), 3) := by decide +kernel
theorem dX10_goDown_81 : decode cX10_goDown 81 = .ok (.iload 6, 2) := by decide +kernel
theorem dX10_goDown_83 : decode cX10_goDown 83 = .ok (.ifCond .lt 32, 3) := by decide +kernel
theorem dX10_goDown_86 : decode cX10_goDown 86 = .ok (.iload 6, 2) := by decide +kernel
theorem dX10_goDown_88 : decode cX10_goDown 88 = .ok (.istore 4, 2) := by decide +kernel
theorem dX10_goDown_90 : decode cX10_goDown 90 = .ok (.aload_n 0, 1) := by decide +kernel
theorem dX10_goDown_91 : decode cX10_goDown 91 = .ok (.getfield 31, 3) := by decide +kernel
theorem dX10_goDown_94 : decode cX10_goDown 94 = .ok (.iload 4, 2) := by decide +kernel
theorem dX10_goDown_96 : decode cX10_goDown 96 = .ok (.iload_n 3, 1) := by decide +kernel
theorem dX10_goDown_97 : decode cX10_goDown 97 = .ok (.iastore, 1) := by decide +kernel
theorem dX10_goDown_98 : decode cX10_goDown 98 = .ok (.aload_n 0, 1) := by decide +kernel
theorem dX10_goDown_99 : decode cX10_goDown 99 = .ok (.getfield 34, 3) := by decide +kernel
theorem dX10_goDown_102 : decode cX10_goDown 102 = .ok (.iload 4, 2) := by decide +kernel
theorem dX10_goDown_104 : decode cX10_goDown 104 = .ok (.iload_n 3, 1) := by decide +kernel
theorem dX10_goDown_105 : decode cX10_goDown 105 = .ok (.iastore, 1) := by decide +kernel
theorem dX10_goDown_106 : decode cX10_goDown 106 = .ok (.iinc 3 1, 3) := by decide +kernel
theorem dX10_goDown_109 : decode cX10_goDown 109 = .ok (.iconst (-1), 1) := by decide +kernel
theorem dX10_goDown_110 : decode cX10_goDown 110 = .ok (.istore 5, 2) := by decide +kernel
theorem dX10_goDown_112 : decode cX10_goDown 112 = .ok (.goto 36, 3) := by decide +kernel
theorem dX10_goDown_115 : decode cX10_goDown 115 = .ok (.aload_n 0, 1) := by decide +kernel
theorem dX10_goDown_116 : decode cX10_goDown 116 = .ok (.getfield 34, 3) := by decide +kernel
theorem dX10_goDown_119 : decode cX10_goDown 119 = .ok (.iload 4, 2) := by decide +kernel
theorem dX10_goDown_121 : decode cX10_goDown 121 = .ok (.iload_n 3, 1) := by decide +kernel
theorem dX10_goDown_122 : decode cX10_goDown 122 = .ok (.iconst 1, 1) := by decide +kernel
theorem dX10_goDown_123 : decode cX10_goDown 123 = .ok (.isub, 1) := by decide +kernel
theorem dX10_goDown_124 : decode cX10_goDown 124 = .ok (.iastore, 1) := by decide +kernel
theorem dX10_goDown_125 : decode cX10_goDown 125 = .ok (.iload 4, 2) := by decide +kernel
theorem dX10_goDown_127 : decode cX10_goDown 127 = .ok (.istore 5, 2) := by decide +kernel
theorem dX10_goDown_129 : decode cX10_goDown 129 = .ok (.iload 4, 2) := by decide +kernel
theorem dX10_goDown_131 : decode cX10_goDown 131 = .ok (.iload_n 1, 1) := by decide +kernel
theorem dX10_goDown_132 : decode cX10_goDown 132 = .ok (.if_icmp .ne 7, 3) := by decide +kernel
theorem dX10_goDown_135 : decode cX10_goDown 135 = .ok (.iconst (-1), 1) := by decide +kernel
theorem dX10_goDown_136 : decode cX10_goDown 136 = .ok (.goto 10, 3) := by decide +kernel
theorem dX10_goDown_139 : decode cX10_goDown 139 = .ok (.aload_n 0, 1) := by decide +kernel
theorem dX10_goDown_140 : decode cX10_goDown 140 = .ok (.getfield 16, 3) := by decide +kernel
theorem dX10_goDown_143 : decode cX10_goDown 143 = .ok (.iload 4, 2) := by decide +kernel
theorem dX10_goDown_145 : decode cX10_goDown 145 = .ok (.iaload, 1) := by decide +kernel
theorem dX10_goDown_146 : decode cX10_goDown 146 = .ok (.istore 4, 2) := by decide +kernel
theorem dX10_goDown_148 : decode cX10_goDown 148 = .ok (.goto (-121), 3) := by decide +kernel
theorem dX10_goDown_151 : decode cX10_goDown 151 = .ok (.iload_n 3, 1) := by decide +kernel
theorem dX10_goDown_152 : decode cX10_goDown 152 = .ok (.ireturn, 1) := by decide +kernel
theorem wMd_goDown_81 (l : Launch) (G : zG) (k27 : Int32 → Int32 → Int32 → Int32 → zM → Option (Int32 × zM)) (hk27 : ∀ (v1 : Int32) (v3 : Int32) (v4 : Int32) (v5 : Int32) (M : zM), zV eI l G zLY zRY 1 yX10_goDown cX10_goDown 8 (some .int) 27 [(0, .ref 0), (1, .int v1), (3, .int v3), (4, .int v4), (5, .int v5)] [] M (k27 v1 v3 v4 v5 M)) (v1 : Int32) (v3 : Int32) (v4 : Int32) (v6 : Int32) (M : zM) : zV eI l G zLY zRY 1 yX10_goDown cX10_goDown 8 (some .int) 81 [(0, .ref 0), (1, .int v1), (3, .int v3), (4, .int v4), (6, .int v6)] [] M (fMd_goDown_81 k27 v1 v3 v4 v6 M) := by
  rw [fMd_goDown_81]
  refine v_iload (pc := 81) dX10_goDown_81 rfl ?_
  refine v_if_lt (pc := 83) 115 dX10_goDown_83 (by decide) ?_ ?_
  · refine v_aload_n (pc := 115) dX10_goDown_115 rfl ?_
    refine v_getR (pc := 116) (q := 12) zk10 ly_0 rfl ry_0_12 tw_1038 dX10_goDown_116 ?_
    refine v_iload (pc := 119) dX10_goDown_119 rfl ?_
    refine v_iload_n (pc := 121) dX10_goDown_121 rfl ?_
    refine v_iconst (pc := 122) 1 dX10_goDown_122 (by decide) ?_
    refine v_isub (pc := 123) dX10_goDown_123 ?_
    refine v_iast (pc := 124) ly_9 dX10_goDown_124 (fun M1 => ?_)
    refine v_iload (pc := 125) dX10_goDown_125 rfl ?_
    refine v_istore (pc := 127) dX10_goDown_127 (by decide) ?_
    refine v_iload (pc := 129) dX10_goDown_129 rfl ?_
    refine v_iload_n (pc := 131) dX10_goDown_131 rfl ?_
    refine v_icmp_ne (pc := 132) 139 dX10_goDown_132 (by decide) ?_ ?_
    · refine v_aload_n (pc := 139) dX10_goDown_139 rfl ?_
      refine v_getR (pc := 140) (q := 4) zk10 ly_0 rfl ry_0_4 tw_1030 dX10_goDown_140 ?_
      refine v_iload (pc := 143) dX10_goDown_143 rfl ?_
      refine v_iald (pc := 145) ly_3 dX10_goDown_145 (fun x2 => ?_)
      refine v_istore (pc := 146) dX10_goDown_146 (by decide) ?_
      refine v_goto (pc := 148) 27 dX10_goDown_148 (by decide) ?_
      exact v_sub (hk27 v1 v3 x2 v4 M1) rfl
    · refine v_iconst (pc := 135) (-1) dX10_goDown_135 (by decide) ?_
      refine v_goto (pc := 136) 146 dX10_goDown_136 (by decide) ?_
      refine v_istore (pc := 146) dX10_goDown_146 (by decide) ?_
      refine v_goto (pc := 148) 27 dX10_goDown_148 (by decide) ?_
      exact v_sub (hk27 v1 v3 (-1) v4 M1) rfl
  · refine v_iload (pc := 86) dX10_goDown_86 rfl ?_
    refine v_istore (pc := 88) dX10_goDown_88 (by decide) ?_
    refine v_aload_n (pc := 90) dX10_goDown_90 rfl ?_
    refine v_getR (pc := 91) (q := 11) zk10 ly_0 rfl ry_0_11 tw_1037 dX10_goDown_91 ?_
    refine v_iload (pc := 94) dX10_goDown_94 rfl ?_
    refine v_iload_n (pc := 96) dX10_goDown_96 rfl ?_
    refine v_iast (pc := 97) ly_8 dX10_goDown_97 (fun M3 => ?_)
    refine v_aload_n (pc := 98) dX10_goDown_98 rfl ?_
    refine v_getR (pc := 99) (q := 12) zk10 ly_0 rfl ry_0_12 tw_1038 dX10_goDown_99 ?_
    refine v_iload (pc := 102) dX10_goDown_102 rfl ?_
    refine v_iload_n (pc := 104) dX10_goDown_104 rfl ?_
    refine v_iast (pc := 105) ly_9 dX10_goDown_105 (fun M4 => ?_)
    refine v_iinc (pc := 106) 1 dX10_goDown_106 rfl (by decide) (by decide) ?_
    refine v_iconst (pc := 109) (-1) dX10_goDown_109 (by decide) ?_
    refine v_istore (pc := 110) dX10_goDown_110 (by decide) ?_
    refine v_goto (pc := 112) 148 dX10_goDown_112 (by decide) ?_
    refine v_goto (pc := 148) 27 dX10_goDown_148 (by decide) ?_
    exact v_sub (hk27 v1 (v3 + 1) v6 (-1) M4) rfl
theorem wMd_goDown_41 (l : Launch) (G : zG) (k27 : Int32 → Int32 → Int32 → Int32 → zM → Option (Int32 × zM)) (hk27 : ∀ (v1 : Int32) (v3 : Int32) (v4 : Int32) (v5 : Int32) (M : zM), zV eI l G zLY zRY 1 yX10_goDown cX10_goDown 8 (some .int) 27 [(0, .ref 0), (1, .int v1), (3, .int v3), (4, .int v4), (5, .int v5)] [] M (k27 v1 v3 v4 v5 M)) : ∀ (fuel : Nat) (v1 : Int32) (v3 : Int32) (v4 : Int32) (v6 : Int32) (v7 : Int32) (M : zM), zV eI l G zLY zRY 1 yX10_goDown cX10_goDown 8 (some .int) 41 [(0, .ref 0), (1, .int v1), (3, .int v3), (4, .int v4), (6, .int v6), (7, .int v7)] [] M (fMd_goDown_41 k27 fuel v1 v3 v4 v6 v7 M) := by
  intro fuel
  induction fuel with
  | zero => intro v1 v3 v4 v6 v7 M; exact v_none
  | succ fuel ih =>
    intro v1 v3 v4 v6 v7 M
    rw [fMd_goDown_41]
    refine v_iload (pc := 41) dX10_goDown_41 rfl ?_
    refine v_aload_n (pc := 43) dX10_goDown_43 rfl ?_
    refine v_getI (pc := 44) (q := 0) zk10 ly_0 rfl tw_1026 dX10_goDown_44 ?_
    refine v_icmp_ge (pc := 47) 81 dX10_goDown_47 (by decide) ?_ ?_
    · exact v_sub (wMd_goDown_81 l G k27 hk27 v1 v3 v4 v6 M) rfl
    · refine v_iload (pc := 50) dX10_goDown_50 rfl ?_
      refine v_if_ge (pc := 52) 81 dX10_goDown_52 (by decide) ?_ ?_
      · exact v_sub (wMd_goDown_81 l G k27 hk27 v1 v3 v4 v6 M) rfl
      · refine v_aload_n (pc := 55) dX10_goDown_55 rfl ?_
        refine v_getR (pc := 56) (q := 4) zk10 ly_0 rfl ry_0_4 tw_1030 dX10_goDown_56 ?_
        refine v_iload (pc := 59) dX10_goDown_59 rfl ?_
        refine v_iald (pc := 61) ly_3 dX10_goDown_61 (fun x1 => ?_)
        refine v_iload (pc := 62) dX10_goDown_62 rfl ?_
        refine v_icmp_ne (pc := 64) 72 dX10_goDown_64 (by decide) ?_ ?_
        · refine v_iconst (pc := 72) (-1) dX10_goDown_72 (by decide) ?_
          refine v_istore (pc := 73) dX10_goDown_73 (by decide) ?_
          refine v_iinc (pc := 75) 1 dX10_goDown_75 rfl (by decide) (by decide) ?_
          refine v_goto (pc := 78) 41 dX10_goDown_78 (by decide) ?_
          exact v_sub (ih v1 v3 v4 (-1) (v7 + 1) M) rfl
        · refine v_iload (pc := 67) dX10_goDown_67 rfl ?_
          refine v_goto (pc := 69) 73 dX10_goDown_69 (by decide) ?_
          refine v_istore (pc := 73) dX10_goDown_73 (by decide) ?_
          refine v_iinc (pc := 75) 1 dX10_goDown_75 rfl (by decide) (by decide) ?_
          refine v_goto (pc := 78) 41 dX10_goDown_78 (by decide) ?_
          exact v_sub (ih v1 v3 v4 v7 (v7 + 1) M) rfl
theorem wMd_goDown_27 (l : Launch) (G : zG) : ∀ (fuel : Nat) (v1 : Int32) (v3 : Int32) (v4 : Int32) (v5 : Int32) (M : zM), zV eI l G zLY zRY 1 yX10_goDown cX10_goDown 8 (some .int) 27 [(0, .ref 0), (1, .int v1), (3, .int v3), (4, .int v4), (5, .int v5)] [] M (fMd_goDown_27 fuel v1 v3 v4 v5 M) := by
  intro fuel
  induction fuel with
  | zero => intro v1 v3 v4 v5 M; exact v_none
  | succ fuel ih =>
    intro v1 v3 v4 v5 M
    rw [fMd_goDown_27]
    refine v_iload (pc := 27) dX10_goDown_27 rfl ?_
    refine v_if_lt (pc := 29) 151 dX10_goDown_29 (by decide) ?_ ?_
    · refine v_iload_n (pc := 151) dX10_goDown_151 rfl ?_
      exact v_iret (pc := 152) dX10_goDown_152
    · refine v_iconst (pc := 32) (-1) dX10_goDown_32 (by decide) ?_
      refine v_istore (pc := 33) dX10_goDown_33 (by decide) ?_
      refine v_iload (pc := 35) dX10_goDown_35 rfl ?_
      refine v_iconst (pc := 37) 1 dX10_goDown_37 (by decide) ?_
      refine v_iadd (pc := 38) dX10_goDown_38 ?_
      refine v_istoreL (pc := 39) dX10_goDown_39 (by decide) (fun u7_39 => ?_)
      exact v_sub (wMd_goDown_41 l G (fMd_goDown_27 fuel) ih FU v1 v3 v4 (-1) u7_39 M) rfl
theorem wMd_goDown (l : Launch) (G : zG) (v1 : Int32) (v2 : Int32) (M : zM) : zV eI l G zLY zRY 1 yX10_goDown cX10_goDown 8 (some .int) 0 [(0, .ref 0), (1, .int v1), (2, .int v2)] [] M (fMd_goDown v1 v2 M) := by
  rw [fMd_goDown]
  refine v_iload_n (pc := 0) dX10_goDown_0 rfl ?_
  refine v_istore_n (pc := 1) dX10_goDown_1 (by decide) ?_
  refine v_iload_n (pc := 2) dX10_goDown_2 rfl ?_
  refine v_istore (pc := 3) dX10_goDown_3 (by decide) ?_
  refine v_aload_n (pc := 5) dX10_goDown_5 rfl ?_
  refine v_getR (pc := 6) (q := 11) zk10 ly_0 rfl ry_0_11 tw_1037 dX10_goDown_6 ?_
  refine v_iload (pc := 9) dX10_goDown_9 rfl ?_
  refine v_iload_n (pc := 11) dX10_goDown_11 rfl ?_
  refine v_iast (pc := 12) ly_8 dX10_goDown_12 (fun M1 => ?_)
  refine v_aload_n (pc := 13) dX10_goDown_13 rfl ?_
  refine v_getR (pc := 14) (q := 12) zk10 ly_0 rfl ry_0_12 tw_1038 dX10_goDown_14 ?_
  refine v_iload (pc := 17) dX10_goDown_17 rfl ?_
  refine v_iload_n (pc := 19) dX10_goDown_19 rfl ?_
  refine v_iast (pc := 20) ly_9 dX10_goDown_20 (fun M2 => ?_)
  refine v_iinc (pc := 21) 1 dX10_goDown_21 rfl (by decide) (by decide) ?_
  refine v_iconst (pc := 24) (-1) dX10_goDown_24 (by decide) ?_
  refine v_istore (pc := 25) dX10_goDown_25 (by decide) ?_
  exact v_sub (wMd_goDown_27 l G FU v1 (v2 + 1) v1 (-1) M2) rfl
theorem cMd_goDown (l : Launch) (G : zG) (v1 : Int32) (v2 : Int32) (M : zM) : zC eI l G zLY zRY 1 yX10_goDown cX10_goDown 8 (some .int) [.ref 0, .int v1, .int v2] M (fMd_goDown v1 v2 M) := zC.of (by decide) (Nat.le_of_ble_eq_true rfl) (v_sub (wMd_goDown l G v1 v2 M) rfl)
theorem dX10_findSpans_0 : decode cX10_findSpans 0 = .ok (.iconst 0, 1) := by decide +kernel
theorem dX10_findSpans_1 : decode cX10_findSpans 1 = .ok (.istore_n 1, 1) := by decide +kernel
theorem dX10_findSpans_2 : decode cX10_findSpans 2 = .ok (.iconst 0, 1) := by decide +kernel
theorem dX10_findSpans_3 : decode cX10_findSpans 3 = .ok (.istore_n 2, 1) := by decide +kernel
theorem dX10_findSpans_4 : decode cX10_findSpans 4 = .ok (.iload_n 2, 1) := by decide +kernel
theorem dX10_findSpans_5 : decode cX10_findSpans 5 = .ok (.aload_n 0, 1) := by decide +kernel
theorem dX10_findSpans_6 : decode cX10_findSpans 6 = .ok (.getfield 99, 3) := by decide +kernel
theorem dX10_findSpans_9 : decode cX10_findSpans 9 = .ok (.if_icmp .ge 25, 3) := by decide +kernel
theorem dX10_findSpans_12 : decode cX10_findSpans 12 = .ok (.aload_n 0, 1) := by decide +kernel
theorem dX10_findSpans_13 : decode cX10_findSpans 13 = .ok (.getfield 16, 3) := by decide +kernel
theorem dX10_findSpans_16 : decode cX10_findSpans 16 = .ok (.iload_n 2, 1) := by decide +kernel
theorem dX10_findSpans_17 : decode cX10_findSpans 17 = .ok (.iaload, 1) := by decide +kernel
theorem dX10_findSpans_18 : decode cX10_findSpans 18 = .ok (.ifCond .ge 10, 3) := by decide +kernel
theorem dX10_findSpans_21 : decode cX10_findSpans 21 = .ok (.aload_n 0, 1) := by decide +kernel
theorem dX10_findSpans_22 : decode cX10_findSpans 22 = .ok (.iload_n 2, 1) := by decide +kernel
theorem dX10_findSpans_23 : decode cX10_findSpans 23 = .ok (.iload_n 1, 1) := by decide +kernel
theorem dX10_findSpans_24 : decode cX10_findSpans 24 = .ok (.invokevirtual 136, 3) := by decide +kernel
theorem dX10_findSpans_27 : decode cX10_findSpans 27 = .ok (.istore_n 1, 1) := by decide +kernel
theorem dX10_findSpans_28 : decode cX10_findSpans 28 = .ok (.iinc 2 1, 3) := by decide +kernel
theorem dX10_findSpans_31 : decode cX10_findSpans 31 = .ok (.goto (-27), 3) := by decide +kernel
theorem dX10_findSpans_34 : decode cX10_findSpans 34 = .ok (.return_, 1) := by decide +kernel
theorem wMd_findSpans_4 (l : Launch) (G : zG) : ∀ (fuel : Nat) (v1 : Int32) (v2 : Int32) (M : zM), zV eV l G zLY zRY 2 yX10_findSpans cX10_findSpans 3 none 4 [(0, .ref 0), (1, .int v1), (2, .int v2)] [] M (fMd_findSpans_4 fuel v1 v2 M) := by
  intro fuel
  induction fuel with
  | zero => intro v1 v2 M; exact v_none
  | succ fuel ih =>
    intro v1 v2 M
    rw [fMd_findSpans_4]
    refine v_iload_n (pc := 4) dX10_findSpans_4 rfl ?_
    refine v_aload_n (pc := 5) dX10_findSpans_5 rfl ?_
    refine v_getI (pc := 6) (q := 0) zk10 ly_0 rfl tw_1026 dX10_findSpans_6 ?_
    refine v_icmp_ge (pc := 9) 34 dX10_findSpans_9 (by decide) ?_ ?_
    · exact v_vret (pc := 34) dX10_findSpans_34
    · refine v_aload_n (pc := 12) dX10_findSpans_12 rfl ?_
      refine v_getR (pc := 13) (q := 4) zk10 ly_0 rfl ry_0_4 tw_1030 dX10_findSpans_13 ?_
      refine v_iload_n (pc := 16) dX10_findSpans_16 rfl ?_
      refine v_iald (pc := 17) ly_3 dX10_findSpans_17 (fun x1 => ?_)
      refine v_if_ge (pc := 18) 28 dX10_findSpans_18 (by decide) ?_ ?_
      · refine v_iinc (pc := 28) 1 dX10_findSpans_28 rfl (by decide) (by decide) ?_
        refine v_goto (pc := 31) 4 dX10_findSpans_31 (by decide) ?_
        exact v_sub (ih v1 (v2 + 1) M) rfl
      · refine v_aload_n (pc := 21) dX10_findSpans_21 rfl ?_
        refine v_iload_n (pc := 22) dX10_findSpans_22 rfl ?_
        refine v_iload_n (pc := 23) dX10_findSpans_23 rfl ?_
        refine v_callV (pc := 24) (As := [.int v2, .int v1]) (cMd_goDown l G v2 v1 M) zc_X10_goDown zk10 rfl ly_0 tw_1240 (by decide) (Nat.le_of_ble_eq_true rfl) dX10_findSpans_24 (fun r3 M2 => ?_)
        refine v_istore_n (pc := 27) dX10_findSpans_27 (by decide) ?_
        refine v_iinc (pc := 28) 1 dX10_findSpans_28 rfl (by decide) (by decide) ?_
        refine v_goto (pc := 31) 4 dX10_findSpans_31 (by decide) ?_
        exact v_sub (ih r3 (v2 + 1) M2) rfl
theorem wMd_findSpans (l : Launch) (G : zG)  (M : zM) : zV eV l G zLY zRY 2 yX10_findSpans cX10_findSpans 3 none 0 [(0, .ref 0)] [] M (fMd_findSpans  M) := by
  rw [fMd_findSpans]
  refine v_iconst (pc := 0) 0 dX10_findSpans_0 (by decide) ?_
  refine v_istore_n (pc := 1) dX10_findSpans_1 (by decide) ?_
  refine v_iconst (pc := 2) 0 dX10_findSpans_2 (by decide) ?_
  refine v_istore_n (pc := 3) dX10_findSpans_3 (by decide) ?_
  exact v_sub (wMd_findSpans_4 l G FU 0 0 M) rfl
theorem cMd_findSpans (l : Launch) (G : zG)  (M : zM) : zC eV l G zLY zRY 2 yX10_findSpans cX10_findSpans 3 none [.ref 0] M (fMd_findSpans  M) := zC.of (by decide) (Nat.le_of_ble_eq_true rfl) (v_sub (wMd_findSpans l G  M) rfl)
theorem dX10_findTurns_0 : decode cX10_findTurns 0 = .ok (.iconst 0, 1) := by decide +kernel
theorem dX10_findTurns_1 : decode cX10_findTurns 1 = .ok (.istore_n 1, 1) := by decide +kernel
theorem dX10_findTurns_2 : decode cX10_findTurns 2 = .ok (.iload_n 1, 1) := by decide +kernel
theorem dX10_findTurns_3 : decode cX10_findTurns 3 = .ok (.aload_n 0, 1) := by decide +kernel
theorem dX10_findTurns_4 : decode cX10_findTurns 4 = .ok (.getfield 99, 3) := by decide +kernel
theorem dX10_findTurns_7 : decode cX10_findTurns 7 = .ok (.if_icmp .ge 16, 3) := by decide +kernel
theorem dX10_findTurns_10 : decode cX10_findTurns 10 = .ok (.aload_n 0, 1) := by decide +kernel
theorem dX10_findTurns_11 : decode cX10_findTurns 11 = .ok (.getfield 37, 3) := by decide +kernel
theorem dX10_findTurns_14 : decode cX10_findTurns 14 = .ok (.iload_n 1, 1) := by decide +kernel
theorem dX10_findTurns_15 : decode cX10_findTurns 15 = .ok (.iconst (-1), 1) := by decide +kernel
theorem dX10_findTurns_16 : decode cX10_findTurns 16 = .ok (.iastore, 1) := by decide +kernel
theorem dX10_findTurns_17 : decode cX10_findTurns 17 = .ok (.iinc 1 1, 3) := by decide +kernel
theorem dX10_findTurns_20 : decode cX10_findTurns 20 = .ok (.goto (-18), 3) := by decide +kernel
theorem dX10_findTurns_23 : decode cX10_findTurns 23 = .ok (.iconst 0, 1) := by decide +kernel
theorem dX10_findTurns_24 : decode cX10_findTurns 24 = .ok (.istore_n 1, 1) := by decide +kernel
theorem dX10_findTurns_25 : decode cX10_findTurns 25 = .ok (.iload_n 1, 1) := by decide +kernel
theorem dX10_findTurns_26 : decode cX10_findTurns 26 = .ok (.aload_n 0, 1) := by decide +kernel
theorem dX10_findTurns_27 : decode cX10_findTurns 27 = .ok (.getfield 99, 3) := by decide +kernel
theorem dX10_findTurns_30 : decode cX10_findTurns 30 = .ok (.if_icmp .ge 119, 3) := by decide +kernel
theorem dX10_findTurns_33 : decode cX10_findTurns 33 = .ok (.iconst (-1), 1) := by decide +kernel
theorem dX10_findTurns_34 : decode cX10_findTurns 34 = .ok (.istore_n 2, 1) := by decide +kernel
theorem dX10_findTurns_35 : decode cX10_findTurns 35 = .ok (.iconst 0, 1) := by decide +kernel
theorem dX10_findTurns_36 : decode cX10_findTurns 36 = .ok (.istore_n 3, 1) := by decide +kernel
theorem dX10_findTurns_37 : decode cX10_findTurns 37 = .ok (.iconst 0, 1) := by decide +kernel
theorem dX10_findTurns_38 : decode cX10_findTurns 38 = .ok (.istore 4, 2) := by decide +kernel
theorem dX10_findTurns_40 : decode cX10_findTurns 40 = .ok (.iload 4, 2) := by decide +kernel
theorem dX10_findTurns_42 : decode cX10_findTurns 42 = .ok (.aload_n 0, 1) := by decide +kernel
theorem dX10_findTurns_43 : decode cX10_findTurns 43 = .ok (.getfield 99, 3) := by decide +kernel
theorem dX10_findTurns_46 : decode cX10_findTurns 46 = .ok (.if_icmp .ge 90, 3) := by decide +kernel
theorem dX10_findTurns_49 : decode cX10_findTurns 49 = .ok (.iconst 0, 1) := by decide +kernel
theorem dX10_findTurns_50 : decode cX10_findTurns 50 = .ok (.istore 5, 2) := by decide +kernel
theorem dX10_findTurns_52 : decode cX10_findTurns 52 = .ok (.iconst 0, 1) := by decide +kernel
theorem dX10_findTurns_53 : decode cX10_findTurns 53 = .ok (.istore 6, 2) := by decide +kernel
theorem dX10_findTurns_55 : decode cX10_findTurns 55 = .ok (.iload 6, 2) := by decide +kernel
theorem dX10_findTurns_57 : decode cX10_findTurns 57 = .ok (.aload_n 0, 1) := by decide +kernel
theorem dX10_findTurns_58 : decode cX10_findTurns 58 = .ok (.getfield 99, 3) := by decide +kernel
theorem dX10_findTurns_61 : decode cX10_findTurns 61 = .ok (.if_icmp .ge 43, 3) := by decide +kernel
theorem dX10_findTurns_64 : decode cX10_findTurns 64 = .ok (.iload 5, 2) := by decide +kernel
theorem dX10_findTurns_66 : decode cX10_findTurns 66 = .ok (.aload_n 0, 1) := by decide +kernel
theorem dX10_findTurns_67 : decode cX10_findTurns 67 = .ok (.getfield 37, 3) := by decide +kernel
theorem dX10_findTurns_70 : decode cX10_findTurns 70 = .ok (.iload 6, 2) := by decide +kernel
theorem dX10_findTurns_72 : decode cX10_findTurns 72 = .ok (.iaload, 1) := by decide +kernel
theorem dX10_findTurns_73 : decode cX10_findTurns 73 = .ok (.ifCond .ge 18, 3) := by decide +kernel
theorem dX10_findTurns_76 : decode cX10_findTurns 76 = .ok (.aload_n 0, 1) := by decide +kernel
theorem dX10_findTurns_77 : decode cX10_findTurns 77 = .ok (.iload 4, 2) := by decide +kernel
theorem dX10_findTurns_79 : decode cX10_findTurns 79 = .ok (.iload 6, 2) := by decide +kernel
theorem dX10_findTurns_81 : decode cX10_findTurns 81 = .ok (.invokevirtual 119, 3) := by decide +kernel
theorem dX10_findTurns_84 : decode cX10_findTurns 84 = .ok (.ifCond .lt 7, 3) := by decide +kernel
theorem dX10_findTurns_87 : decode cX10_findTurns 87 = .ok (.iconst 1, 1) := by decide +kernel
theorem dX10_findTurns_88 : decode cX10_findTurns 88 = .ok (.goto 4, 3) := by decide +kernel
theorem dX10_findTurns_91 : decode cX10_findTurns 91 = .ok (.iconst 0, 1) := by decide +kernel
theorem dX10_findTurns_92 : decode cX10_findTurns 92 = .ok (.invokestatic 109, 3) := by decide +kernel
theorem dX10_findTurns_95 : decode cX10_findTurns 95 = .ok (.iadd, 1) := by decide +kernel
theorem dX10_findTurns_96 : decode cX10_findTurns 96 = .ok (.istore 5, 2) := by decide +kernel
theorem dX10_findTurns_98 : decode cX10_findTurns 98 = .ok (.iinc 6 1, 3) := by decide +kernel
theorem dX10_findTurns_101 : decode cX10_findTurns 101 = .ok (.goto (-46), 3) := by decide +kernel
theorem dX10_findTurns_104 : decode cX10_findTurns 104 = .ok (.aload_n 0, 1) := by decide +kernel
theorem dX10_findTurns_105 : decode cX10_findTurns 105 = .ok (.getfield 37, 3) := by decide +kernel
theorem dX10_findTurns_108 : decode cX10_findTurns 108 = .ok (.iload 4, 2) := by decide +kernel
theorem dX10_findTurns_110 : decode cX10_findTurns 110 = .ok (.iaload, 1) := by decide +kernel
theorem dX10_findTurns_111 : decode cX10_findTurns 111 = .ok (.ifCond .ge 19, 3) := by decide +kernel
theorem dX10_findTurns_114 : decode cX10_findTurns 114 = .ok (.iload_n 2, 1) := by decide +kernel
theorem dX10_findTurns_115 : decode cX10_findTurns 115 = .ok (.ifCond .lt 9, 3) := by decide +kernel
theorem dX10_findTurns_118 : decode cX10_findTurns 118 = .ok (.iload 5, 2) := by decide +kernel
theorem dX10_findTurns_120 : decode cX10_findTurns 120 = .ok (.iload_n 3, 1) := by decide +kernel
theorem dX10_findTurns_121 : decode cX10_findTurns 121 = .ok (.if_icmp .ge 9, 3) := by decide +kernel
theorem dX10_findTurns_124 : decode cX10_findTurns 124 = .ok (.iload 4, 2) := by decide +kernel
theorem dX10_findTurns_126 : decode cX10_findTurns 126 = .ok (.istore_n 2, 1) := by decide +kernel
theorem dX10_findTurns_127 : decode cX10_findTurns 127 = .ok (.iload 5, 2) := by decide +kernel
theorem dX10_findTurns_129 : decode cX10_findTurns 129 = .ok (.istore_n 3, 1) := by decide +kernel
theorem dX10_findTurns_130 : decode cX10_findTurns 130 = .ok (.iinc 4 1, 3) := by decide +kernel
theorem dX10_findTurns_133 : decode cX10_findTurns 133 = .ok (.goto (-93), 3) := by decide +kernel
theorem dX10_findTurns_136 : decode cX10_findTurns 136 = .ok (.aload_n 0, 1) := by decide +kernel
theorem dX10_findTurns_137 : decode cX10_findTurns 137 = .ok (.getfield 37, 3) := by decide +kernel
theorem dX10_findTurns_140 : decode cX10_findTurns 140 = .ok (.iload_n 2, 1) := by decide +kernel
theorem dX10_findTurns_141 : decode cX10_findTurns 141 = .ok (.iload_n 1, 1) := by decide +kernel
theorem dX10_findTurns_142 : decode cX10_findTurns 142 = .ok (.iastore, 1) := by decide +kernel
theorem dX10_findTurns_143 : decode cX10_findTurns 143 = .ok (.iinc 1 1, 3) := by decide +kernel
theorem dX10_findTurns_146 : decode cX10_findTurns 146 = .ok (.goto (-121), 3) := by decide +kernel
theorem dX10_findTurns_149 : decode cX10_findTurns 149 = .ok (.return_, 1) := by decide +kernel
theorem wMd_findTurns_92 (l : Launch) (G : zG) (k55 : Int32 → Int32 → Int32 → Int32 → Int32 → Int32 → zM → Option (Unit × zM)) (hk55 : ∀ (v1 : Int32) (v2 : Int32) (v3 : Int32) (v4 : Int32) (v5 : Int32) (v6 : Int32) (M : zM), zV eV l G zLY zRY 2 yX10_findTurns cX10_findTurns 7 none 55 [(0, .ref 0), (1, .int v1), (2, .int v2), (3, .int v3), (4, .int v4), (5, .int v5), (6, .int v6)] [] M (k55 v1 v2 v3 v4 v5 v6 M)) (v1 : Int32) (v2 : Int32) (v3 : Int32) (v4 : Int32) (v6 : Int32) (vs0 : Int32) (vs1 : Int32) (M : zM) : zV eV l G zLY zRY 2 yX10_findTurns cX10_findTurns 7 none 92 [(0, .ref 0), (1, .int v1), (2, .int v2), (3, .int v3), (4, .int v4), (6, .int v6)] [.int vs0, .int vs1] M (fMd_findTurns_92 k55 v1 v2 v3 v4 v6 vs0 vs1 M) := by
  rw [fMd_findTurns_92]
  refine v_callS (pc := 92) (As := [.int vs0]) (cMd_bit l G vs0 M) zc_X10_bit tw_1196 (by decide) (Nat.le_of_ble_eq_true rfl) dX10_findTurns_92 (fun r2 M1 => ?_)
  refine v_iadd (pc := 95) dX10_findTurns_95 ?_
  refine v_istoreL (pc := 96) dX10_findTurns_96 (by decide) (fun u5_96 => ?_)
  refine v_iinc (pc := 98) 1 dX10_findTurns_98 rfl (by decide) (by decide) ?_
  refine v_goto (pc := 101) 55 dX10_findTurns_101 (by decide) ?_
  exact v_sub (hk55 v1 v2 v3 v4 u5_96 (v6 + 1) M1) rfl
theorem wMd_findTurns_91 (l : Launch) (G : zG) (k55 : Int32 → Int32 → Int32 → Int32 → Int32 → Int32 → zM → Option (Unit × zM)) (hk55 : ∀ (v1 : Int32) (v2 : Int32) (v3 : Int32) (v4 : Int32) (v5 : Int32) (v6 : Int32) (M : zM), zV eV l G zLY zRY 2 yX10_findTurns cX10_findTurns 7 none 55 [(0, .ref 0), (1, .int v1), (2, .int v2), (3, .int v3), (4, .int v4), (5, .int v5), (6, .int v6)] [] M (k55 v1 v2 v3 v4 v5 v6 M)) (v1 : Int32) (v2 : Int32) (v3 : Int32) (v4 : Int32) (v6 : Int32) (vs0 : Int32) (M : zM) : zV eV l G zLY zRY 2 yX10_findTurns cX10_findTurns 7 none 91 [(0, .ref 0), (1, .int v1), (2, .int v2), (3, .int v3), (4, .int v4), (6, .int v6)] [.int vs0] M (fMd_findTurns_91 k55 v1 v2 v3 v4 v6 vs0 M) := by
  rw [fMd_findTurns_91]
  refine v_iconst (pc := 91) 0 dX10_findTurns_91 (by decide) ?_
  exact v_sub (wMd_findTurns_92 l G k55 hk55 v1 v2 v3 v4 v6 0 vs0 M) rfl
theorem wMd_findTurns_55 (l : Launch) (G : zG) (k40 : Int32 → Int32 → Int32 → Int32 → zM → Option (Unit × zM)) (hk40 : ∀ (v1 : Int32) (v2 : Int32) (v3 : Int32) (v4 : Int32) (M : zM), zV eV l G zLY zRY 2 yX10_findTurns cX10_findTurns 7 none 40 [(0, .ref 0), (1, .int v1), (2, .int v2), (3, .int v3), (4, .int v4)] [] M (k40 v1 v2 v3 v4 M)) : ∀ (fuel : Nat) (v1 : Int32) (v2 : Int32) (v3 : Int32) (v4 : Int32) (v5 : Int32) (v6 : Int32) (M : zM), zV eV l G zLY zRY 2 yX10_findTurns cX10_findTurns 7 none 55 [(0, .ref 0), (1, .int v1), (2, .int v2), (3, .int v3), (4, .int v4), (5, .int v5), (6, .int v6)] [] M (fMd_findTurns_55 k40 fuel v1 v2 v3 v4 v5 v6 M) := by
  intro fuel
  induction fuel with
  | zero => intro v1 v2 v3 v4 v5 v6 M; exact v_none
  | succ fuel ih =>
    intro v1 v2 v3 v4 v5 v6 M
    rw [fMd_findTurns_55]
    refine v_iload (pc := 55) dX10_findTurns_55 rfl ?_
    refine v_aload_n (pc := 57) dX10_findTurns_57 rfl ?_
    refine v_getI (pc := 58) (q := 0) zk10 ly_0 rfl tw_1026 dX10_findTurns_58 ?_
    refine v_icmp_ge (pc := 61) 104 dX10_findTurns_61 (by decide) ?_ ?_
    · refine v_aload_n (pc := 104) dX10_findTurns_104 rfl ?_
      refine v_getR (pc := 105) (q := 13) zk10 ly_0 rfl ry_0_13 tw_1039 dX10_findTurns_105 ?_
      refine v_iload (pc := 108) dX10_findTurns_108 rfl ?_
      refine v_iald (pc := 110) ly_10 dX10_findTurns_110 (fun x1 => ?_)
      refine v_if_ge (pc := 111) 130 dX10_findTurns_111 (by decide) ?_ ?_
      · refine v_iinc (pc := 130) 1 dX10_findTurns_130 rfl (by decide) (by decide) ?_
        refine v_goto (pc := 133) 40 dX10_findTurns_133 (by decide) ?_
        exact v_sub (hk40 v1 v2 v3 (v4 + 1) M) rfl
      · refine v_iload_n (pc := 114) dX10_findTurns_114 rfl ?_
        refine v_if_lt (pc := 115) 124 dX10_findTurns_115 (by decide) ?_ ?_
        · refine v_iload (pc := 124) dX10_findTurns_124 rfl ?_
          refine v_istore_n (pc := 126) dX10_findTurns_126 (by decide) ?_
          refine v_iload (pc := 127) dX10_findTurns_127 rfl ?_
          refine v_istore_n (pc := 129) dX10_findTurns_129 (by decide) ?_
          refine v_iinc (pc := 130) 1 dX10_findTurns_130 rfl (by decide) (by decide) ?_
          refine v_goto (pc := 133) 40 dX10_findTurns_133 (by decide) ?_
          exact v_sub (hk40 v1 v4 v5 (v4 + 1) M) rfl
        · refine v_iload (pc := 118) dX10_findTurns_118 rfl ?_
          refine v_iload_n (pc := 120) dX10_findTurns_120 rfl ?_
          refine v_icmp_ge (pc := 121) 130 dX10_findTurns_121 (by decide) ?_ ?_
          · refine v_iinc (pc := 130) 1 dX10_findTurns_130 rfl (by decide) (by decide) ?_
            refine v_goto (pc := 133) 40 dX10_findTurns_133 (by decide) ?_
            exact v_sub (hk40 v1 v2 v3 (v4 + 1) M) rfl
          · refine v_iload (pc := 124) dX10_findTurns_124 rfl ?_
            refine v_istore_n (pc := 126) dX10_findTurns_126 (by decide) ?_
            refine v_iload (pc := 127) dX10_findTurns_127 rfl ?_
            refine v_istore_n (pc := 129) dX10_findTurns_129 (by decide) ?_
            refine v_iinc (pc := 130) 1 dX10_findTurns_130 rfl (by decide) (by decide) ?_
            refine v_goto (pc := 133) 40 dX10_findTurns_133 (by decide) ?_
            exact v_sub (hk40 v1 v4 v5 (v4 + 1) M) rfl
    · refine v_iload (pc := 64) dX10_findTurns_64 rfl ?_
      refine v_aload_n (pc := 66) dX10_findTurns_66 rfl ?_
      refine v_getR (pc := 67) (q := 13) zk10 ly_0 rfl ry_0_13 tw_1039 dX10_findTurns_67 ?_
      refine v_iload (pc := 70) dX10_findTurns_70 rfl ?_
      refine v_iald (pc := 72) ly_10 dX10_findTurns_72 (fun x2 => ?_)
      refine v_if_ge (pc := 73) 91 dX10_findTurns_73 (by decide) ?_ ?_
      · exact v_sub (wMd_findTurns_91 l G (fMd_findTurns_55 k40 fuel) ih v1 v2 v3 v4 v6 v5 M) rfl
      · refine v_aload_n (pc := 76) dX10_findTurns_76 rfl ?_
        refine v_iload (pc := 77) dX10_findTurns_77 rfl ?_
        refine v_iload (pc := 79) dX10_findTurns_79 rfl ?_
        refine v_callV (pc := 81) (As := [.int v4, .int v6]) (cMd_lineOf l G v4 v6 M) zc_X10_lineOf zk10 rfl ly_0 tw_1168 (by decide) (Nat.le_of_ble_eq_true rfl) dX10_findTurns_81 (fun r4 M3 => ?_)
        refine v_if_lt (pc := 84) 91 dX10_findTurns_84 (by decide) ?_ ?_
        · exact v_sub (wMd_findTurns_91 l G (fMd_findTurns_55 k40 fuel) ih v1 v2 v3 v4 v6 v5 M3) rfl
        · refine v_iconst (pc := 87) 1 dX10_findTurns_87 (by decide) ?_
          refine v_goto (pc := 88) 92 dX10_findTurns_88 (by decide) ?_
          exact v_sub (wMd_findTurns_92 l G (fMd_findTurns_55 k40 fuel) ih v1 v2 v3 v4 v6 1 v5 M3) rfl
theorem wMd_findTurns_40 (l : Launch) (G : zG) (k25 : Int32 → zM → Option (Unit × zM)) (hk25 : ∀ (v1 : Int32) (M : zM), zV eV l G zLY zRY 2 yX10_findTurns cX10_findTurns 7 none 25 [(0, .ref 0), (1, .int v1)] [] M (k25 v1 M)) : ∀ (fuel : Nat) (v1 : Int32) (v2 : Int32) (v3 : Int32) (v4 : Int32) (M : zM), zV eV l G zLY zRY 2 yX10_findTurns cX10_findTurns 7 none 40 [(0, .ref 0), (1, .int v1), (2, .int v2), (3, .int v3), (4, .int v4)] [] M (fMd_findTurns_40 k25 fuel v1 v2 v3 v4 M) := by
  intro fuel
  induction fuel with
  | zero => intro v1 v2 v3 v4 M; exact v_none
  | succ fuel ih =>
    intro v1 v2 v3 v4 M
    rw [fMd_findTurns_40]
    refine v_iload (pc := 40) dX10_findTurns_40 rfl ?_
    refine v_aload_n (pc := 42) dX10_findTurns_42 rfl ?_
    refine v_getI (pc := 43) (q := 0) zk10 ly_0 rfl tw_1026 dX10_findTurns_43 ?_
    refine v_icmp_ge (pc := 46) 136 dX10_findTurns_46 (by decide) ?_ ?_
    · refine v_aload_n (pc := 136) dX10_findTurns_136 rfl ?_
      refine v_getR (pc := 137) (q := 13) zk10 ly_0 rfl ry_0_13 tw_1039 dX10_findTurns_137 ?_
      refine v_iload_n (pc := 140) dX10_findTurns_140 rfl ?_
      refine v_iload_n (pc := 141) dX10_findTurns_141 rfl ?_
      refine v_iast (pc := 142) ly_10 dX10_findTurns_142 (fun M1 => ?_)
      refine v_iinc (pc := 143) 1 dX10_findTurns_143 rfl (by decide) (by decide) ?_
      refine v_goto (pc := 146) 25 dX10_findTurns_146 (by decide) ?_
      exact v_sub (hk25 (v1 + 1) M1) rfl
    · refine v_iconst (pc := 49) 0 dX10_findTurns_49 (by decide) ?_
      refine v_istore (pc := 50) dX10_findTurns_50 (by decide) ?_
      refine v_iconst (pc := 52) 0 dX10_findTurns_52 (by decide) ?_
      refine v_istore (pc := 53) dX10_findTurns_53 (by decide) ?_
      exact v_sub (wMd_findTurns_55 l G (fMd_findTurns_40 k25 fuel) ih FU v1 v2 v3 v4 0 0 M) rfl
theorem wMd_findTurns_25 (l : Launch) (G : zG) : ∀ (fuel : Nat) (v1 : Int32) (M : zM), zV eV l G zLY zRY 2 yX10_findTurns cX10_findTurns 7 none 25 [(0, .ref 0), (1, .int v1)] [] M (fMd_findTurns_25 fuel v1 M) := by
  intro fuel
  induction fuel with
  | zero => intro v1 M; exact v_none
  | succ fuel ih =>
    intro v1 M
    rw [fMd_findTurns_25]
    refine v_iload_n (pc := 25) dX10_findTurns_25 rfl ?_
    refine v_aload_n (pc := 26) dX10_findTurns_26 rfl ?_
    refine v_getI (pc := 27) (q := 0) zk10 ly_0 rfl tw_1026 dX10_findTurns_27 ?_
    refine v_icmp_ge (pc := 30) 149 dX10_findTurns_30 (by decide) ?_ ?_
    · exact v_vret (pc := 149) dX10_findTurns_149
    · refine v_iconst (pc := 33) (-1) dX10_findTurns_33 (by decide) ?_
      refine v_istore_n (pc := 34) dX10_findTurns_34 (by decide) ?_
      refine v_iconst (pc := 35) 0 dX10_findTurns_35 (by decide) ?_
      refine v_istore_n (pc := 36) dX10_findTurns_36 (by decide) ?_
      refine v_iconst (pc := 37) 0 dX10_findTurns_37 (by decide) ?_
      refine v_istore (pc := 38) dX10_findTurns_38 (by decide) ?_
      exact v_sub (wMd_findTurns_40 l G (fMd_findTurns_25 fuel) ih FU v1 (-1) 0 0 M) rfl
theorem wMd_findTurns_2 (l : Launch) (G : zG) : ∀ (fuel : Nat) (v1 : Int32) (M : zM), zV eV l G zLY zRY 2 yX10_findTurns cX10_findTurns 7 none 2 [(0, .ref 0), (1, .int v1)] [] M (fMd_findTurns_2 fuel v1 M) := by
  intro fuel
  induction fuel with
  | zero => intro v1 M; exact v_none
  | succ fuel ih =>
    intro v1 M
    rw [fMd_findTurns_2]
    refine v_iload_n (pc := 2) dX10_findTurns_2 rfl ?_
    refine v_aload_n (pc := 3) dX10_findTurns_3 rfl ?_
    refine v_getI (pc := 4) (q := 0) zk10 ly_0 rfl tw_1026 dX10_findTurns_4 ?_
    refine v_icmp_ge (pc := 7) 23 dX10_findTurns_7 (by decide) ?_ ?_
    · refine v_iconst (pc := 23) 0 dX10_findTurns_23 (by decide) ?_
      refine v_istore_n (pc := 24) dX10_findTurns_24 (by decide) ?_
      exact v_sub (wMd_findTurns_25 l G FU 0 M) rfl
    · refine v_aload_n (pc := 10) dX10_findTurns_10 rfl ?_
      refine v_getR (pc := 11) (q := 13) zk10 ly_0 rfl ry_0_13 tw_1039 dX10_findTurns_11 ?_
      refine v_iload_n (pc := 14) dX10_findTurns_14 rfl ?_
      refine v_iconst (pc := 15) (-1) dX10_findTurns_15 (by decide) ?_
      refine v_iast (pc := 16) ly_10 dX10_findTurns_16 (fun M1 => ?_)
      refine v_iinc (pc := 17) 1 dX10_findTurns_17 rfl (by decide) (by decide) ?_
      refine v_goto (pc := 20) 2 dX10_findTurns_20 (by decide) ?_
      exact v_sub (ih (v1 + 1) M1) rfl
theorem wMd_findTurns (l : Launch) (G : zG)  (M : zM) : zV eV l G zLY zRY 2 yX10_findTurns cX10_findTurns 7 none 0 [(0, .ref 0)] [] M (fMd_findTurns  M) := by
  rw [fMd_findTurns]
  refine v_iconst (pc := 0) 0 dX10_findTurns_0 (by decide) ?_
  refine v_istore_n (pc := 1) dX10_findTurns_1 (by decide) ?_
  exact v_sub (wMd_findTurns_2 l G FU 0 M) rfl
theorem cMd_findTurns (l : Launch) (G : zG)  (M : zM) : zC eV l G zLY zRY 2 yX10_findTurns cX10_findTurns 7 none [.ref 0] M (fMd_findTurns  M) := zC.of (by decide) (Nat.le_of_ble_eq_true rfl) (v_sub (wMd_findTurns l G  M) rfl)
theorem dX10_findRanks_0 : decode cX10_findRanks 0 = .ok (.iconst 0, 1) := by decide +kernel
theorem dX10_findRanks_1 : decode cX10_findRanks 1 = .ok (.istore_n 1, 1) := by decide +kernel
theorem dX10_findRanks_2 : decode cX10_findRanks 2 = .ok (.iload_n 1, 1) := by decide +kernel
theorem dX10_findRanks_3 : decode cX10_findRanks 3 = .ok (.aload_n 0, 1) := by decide +kernel
theorem dX10_findRanks_4 : decode cX10_findRanks 4 = .ok (.getfield 99, 3) := by decide +kernel
theorem dX10_findRanks_7 : decode cX10_findRanks 7 = .ok (.if_icmp .ge 76, 3) := by decide +kernel
theorem dX10_findRanks_10 : decode cX10_findRanks 10 = .ok (.iconst 0, 1) := by decide +kernel
theorem dX10_findRanks_11 : decode cX10_findRanks 11 = .ok (.istore_n 2, 1) := by decide +kernel
theorem dX10_findRanks_12 : decode cX10_findRanks 12 = .ok (.iconst 0, 1) := by decide +kernel
theorem dX10_findRanks_13 : decode cX10_findRanks 13 = .ok (.istore_n 3, 1) := by decide +kernel
theorem dX10_findRanks_14 : decode cX10_findRanks 14 = .ok (.iload_n 3, 1) := by decide +kernel
theorem dX10_findRanks_15 : decode cX10_findRanks 15 = .ok (.aload_n 0, 1) := by decide +kernel
theorem dX10_findRanks_16 : decode cX10_findRanks 16 = .ok (.getfield 99, 3) := by decide +kernel
theorem dX10_findRanks_19 : decode cX10_findRanks 19 = .ok (.if_icmp .ge 51, 3) := by decide +kernel
theorem dX10_findRanks_22 : decode cX10_findRanks 22 = .ok (.iload_n 2, 1) := by decide +kernel
theorem dX10_findRanks_23 : decode cX10_findRanks 23 = .ok (.aload_n 0, 1) := by decide +kernel
theorem dX10_findRanks_24 : decode cX10_findRanks 24 = .ok (.iload_n 3, 1) := by decide +kernel
theorem dX10_findRanks_25 : decode cX10_findRanks 25 = .ok (.invokevirtual 139, 3) := by decide +kernel
theorem dX10_findRanks_28 : decode cX10_findRanks 28 = .ok (.aload_n 0, 1) := by decide +kernel
theorem dX10_findRanks_29 : decode cX10_findRanks 29 = .ok (.iload_n 1, 1) := by decide +kernel
theorem dX10_findRanks_30 : decode cX10_findRanks 30 = .ok (.invokevirtual 139, 3) := by decide +kernel
theorem dX10_findRanks_33 : decode cX10_findRanks 33 = .ok (.if_icmp .gt 21, 3) := by decide +kernel
theorem dX10_findRanks_36 : decode cX10_findRanks 36 = .ok (.aload_n 0, 1) := by decide +kernel
theorem dX10_findRanks_37 : decode cX10_findRanks 37 = .ok (.iload_n 3, 1) := by decide +kernel
theorem dX10_findRanks_38 : decode cX10_findRanks 38 = .ok (.invokevirtual 139, 3) := by decide +kernel
theorem dX10_findRanks_41 : decode cX10_findRanks 41 = .ok (.aload_n 0, 1) := by decide +kernel
theorem dX10_findRanks_42 : decode cX10_findRanks 42 = .ok (.iload_n 1, 1) := by decide +kernel
theorem dX10_findRanks_43 : decode cX10_findRanks 43 = .ok (.invokevirtual 139, 3) := by decide +kernel
theorem dX10_findRanks_46 : decode cX10_findRanks 46 = .ok (.if_icmp .ne 12, 3) := by decide +kernel
theorem dX10_findRanks_49 : decode cX10_findRanks 49 = .ok (.iload_n 3, 1) := by decide +kernel
theorem dX10_findRanks_50 : decode cX10_findRanks 50 = .ok (.iload_n 1, 1) := by decide +kernel
theorem dX10_findRanks_51 : decode cX10_findRanks 51 = .ok (.if_icmp .ge 7, 3) := by decide +kernel
theorem dX10_findRanks_54 : decode cX10_findRanks 54 = .ok (.iconst 1, 1) := by decide +kernel
theorem dX10_findRanks_55 : decode cX10_findRanks 55 = .ok (.goto 4, 3) := by decide +kernel
theorem dX10_findRanks_58 : decode cX10_findRanks 58 = .ok (.iconst 0, 1) := by decide +kernel
theorem dX10_findRanks_59 : decode cX10_findRanks 59 = .ok (.invokestatic 109, 3) := by decide +kernel
theorem dX10_findRanks_62 : decode cX10_findRanks 62 = .ok (.iadd, 1) := by decide +kernel
theorem dX10_findRanks_63 : decode cX10_findRanks 63 = .ok (.istore_n 2, 1) := by decide +kernel
theorem dX10_findRanks_64 : decode cX10_findRanks 64 = .ok (.iinc 3 1, 3) := by decide +kernel
theorem dX10_findRanks_67 : decode cX10_findRanks 67 = .ok (.goto (-53), 3) := by decide +kernel
theorem dX10_findRanks_70 : decode cX10_findRanks 70 = .ok (.aload_n 0, 1) := by decide +kernel
theorem dX10_findRanks_71 : decode cX10_findRanks 71 = .ok (.getfield 40, 3) := by decide +kernel
theorem dX10_findRanks_74 : decode cX10_findRanks 74 = .ok (.iload_n 1, 1) := by decide +kernel
theorem dX10_findRanks_75 : decode cX10_findRanks 75 = .ok (.iload_n 2, 1) := by decide +kernel
theorem dX10_findRanks_76 : decode cX10_findRanks 76 = .ok (.iastore, 1) := by decide +kernel
theorem dX10_findRanks_77 : decode cX10_findRanks 77 = .ok (.iinc 1 1, 3) := by decide +kernel
theorem dX10_findRanks_80 : decode cX10_findRanks 80 = .ok (.goto (-78), 3) := by decide +kernel
theorem dX10_findRanks_83 : decode cX10_findRanks 83 = .ok (.return_, 1) := by decide +kernel
theorem wMd_findRanks_59 (l : Launch) (G : zG) (k14 : Int32 → Int32 → Int32 → zM → Option (Unit × zM)) (hk14 : ∀ (v1 : Int32) (v2 : Int32) (v3 : Int32) (M : zM), zV eV l G zLY zRY 3 yX10_findRanks cX10_findRanks 4 none 14 [(0, .ref 0), (1, .int v1), (2, .int v2), (3, .int v3)] [] M (k14 v1 v2 v3 M)) (v1 : Int32) (v3 : Int32) (vs0 : Int32) (vs1 : Int32) (M : zM) : zV eV l G zLY zRY 3 yX10_findRanks cX10_findRanks 4 none 59 [(0, .ref 0), (1, .int v1), (3, .int v3)] [.int vs0, .int vs1] M (fMd_findRanks_59 k14 v1 v3 vs0 vs1 M) := by
  rw [fMd_findRanks_59]
  refine v_callS (pc := 59) (As := [.int vs0]) (cMd_bit l G vs0 M) zc_X10_bit tw_1196 (by decide) (Nat.le_of_ble_eq_true rfl) dX10_findRanks_59 (fun r2 M1 => ?_)
  refine v_iadd (pc := 62) dX10_findRanks_62 ?_
  refine v_istore_nL (pc := 63) dX10_findRanks_63 (by decide) (fun u2_63 => ?_)
  refine v_iinc (pc := 64) 1 dX10_findRanks_64 rfl (by decide) (by decide) ?_
  refine v_goto (pc := 67) 14 dX10_findRanks_67 (by decide) ?_
  exact v_sub (hk14 v1 u2_63 (v3 + 1) M1) rfl
theorem wMd_findRanks_58 (l : Launch) (G : zG) (k14 : Int32 → Int32 → Int32 → zM → Option (Unit × zM)) (hk14 : ∀ (v1 : Int32) (v2 : Int32) (v3 : Int32) (M : zM), zV eV l G zLY zRY 3 yX10_findRanks cX10_findRanks 4 none 14 [(0, .ref 0), (1, .int v1), (2, .int v2), (3, .int v3)] [] M (k14 v1 v2 v3 M)) (v1 : Int32) (v3 : Int32) (vs0 : Int32) (M : zM) : zV eV l G zLY zRY 3 yX10_findRanks cX10_findRanks 4 none 58 [(0, .ref 0), (1, .int v1), (3, .int v3)] [.int vs0] M (fMd_findRanks_58 k14 v1 v3 vs0 M) := by
  rw [fMd_findRanks_58]
  refine v_iconst (pc := 58) 0 dX10_findRanks_58 (by decide) ?_
  exact v_sub (wMd_findRanks_59 l G k14 hk14 v1 v3 0 vs0 M) rfl
theorem wMd_findRanks_14 (l : Launch) (G : zG) (k2 : Int32 → zM → Option (Unit × zM)) (hk2 : ∀ (v1 : Int32) (M : zM), zV eV l G zLY zRY 3 yX10_findRanks cX10_findRanks 4 none 2 [(0, .ref 0), (1, .int v1)] [] M (k2 v1 M)) : ∀ (fuel : Nat) (v1 : Int32) (v2 : Int32) (v3 : Int32) (M : zM), zV eV l G zLY zRY 3 yX10_findRanks cX10_findRanks 4 none 14 [(0, .ref 0), (1, .int v1), (2, .int v2), (3, .int v3)] [] M (fMd_findRanks_14 k2 fuel v1 v2 v3 M) := by
  intro fuel
  induction fuel with
  | zero => intro v1 v2 v3 M; exact v_none
  | succ fuel ih =>
    intro v1 v2 v3 M
    rw [fMd_findRanks_14]
    refine v_iload_n (pc := 14) dX10_findRanks_14 rfl ?_
    refine v_aload_n (pc := 15) dX10_findRanks_15 rfl ?_
    refine v_getI (pc := 16) (q := 0) zk10 ly_0 rfl tw_1026 dX10_findRanks_16 ?_
    refine v_icmp_ge (pc := 19) 70 dX10_findRanks_19 (by decide) ?_ ?_
    · refine v_aload_n (pc := 70) dX10_findRanks_70 rfl ?_
      refine v_getR (pc := 71) (q := 14) zk10 ly_0 rfl ry_0_14 tw_1040 dX10_findRanks_71 ?_
      refine v_iload_n (pc := 74) dX10_findRanks_74 rfl ?_
      refine v_iload_n (pc := 75) dX10_findRanks_75 rfl ?_
      refine v_iast (pc := 76) ly_11 dX10_findRanks_76 (fun M1 => ?_)
      refine v_iinc (pc := 77) 1 dX10_findRanks_77 rfl (by decide) (by decide) ?_
      refine v_goto (pc := 80) 2 dX10_findRanks_80 (by decide) ?_
      exact v_sub (hk2 (v1 + 1) M1) rfl
    · refine v_iload_n (pc := 22) dX10_findRanks_22 rfl ?_
      refine v_aload_n (pc := 23) dX10_findRanks_23 rfl ?_
      refine v_iload_n (pc := 24) dX10_findRanks_24 rfl ?_
      refine v_callV (pc := 25) (As := [.int v3]) (cMd_degree l G v3 M) zc_X10_degree zk10 rfl ly_0 tw_1192 (by decide) (Nat.le_of_ble_eq_true rfl) dX10_findRanks_25 (fun r3 M2 => ?_)
      refine v_aload_n (pc := 28) dX10_findRanks_28 rfl ?_
      refine v_iload_n (pc := 29) dX10_findRanks_29 rfl ?_
      refine v_callV (pc := 30) (As := [.int v1]) (cMd_degree l G v1 M2) zc_X10_degree zk10 rfl ly_0 tw_1192 (by decide) (Nat.le_of_ble_eq_true rfl) dX10_findRanks_30 (fun r5 M4 => ?_)
      refine v_icmp_gt (pc := 33) 54 dX10_findRanks_33 (by decide) ?_ ?_
      · refine v_iconst (pc := 54) 1 dX10_findRanks_54 (by decide) ?_
        refine v_goto (pc := 55) 59 dX10_findRanks_55 (by decide) ?_
        exact v_sub (wMd_findRanks_59 l G (fMd_findRanks_14 k2 fuel) ih v1 v3 1 v2 M4) rfl
      · refine v_aload_n (pc := 36) dX10_findRanks_36 rfl ?_
        refine v_iload_n (pc := 37) dX10_findRanks_37 rfl ?_
        refine v_callV (pc := 38) (As := [.int v3]) (cMd_degree l G v3 M4) zc_X10_degree zk10 rfl ly_0 tw_1192 (by decide) (Nat.le_of_ble_eq_true rfl) dX10_findRanks_38 (fun r7 M6 => ?_)
        refine v_aload_n (pc := 41) dX10_findRanks_41 rfl ?_
        refine v_iload_n (pc := 42) dX10_findRanks_42 rfl ?_
        refine v_callV (pc := 43) (As := [.int v1]) (cMd_degree l G v1 M6) zc_X10_degree zk10 rfl ly_0 tw_1192 (by decide) (Nat.le_of_ble_eq_true rfl) dX10_findRanks_43 (fun r9 M8 => ?_)
        refine v_icmp_ne (pc := 46) 58 dX10_findRanks_46 (by decide) ?_ ?_
        · exact v_sub (wMd_findRanks_58 l G (fMd_findRanks_14 k2 fuel) ih v1 v3 v2 M8) rfl
        · refine v_iload_n (pc := 49) dX10_findRanks_49 rfl ?_
          refine v_iload_n (pc := 50) dX10_findRanks_50 rfl ?_
          refine v_icmp_ge (pc := 51) 58 dX10_findRanks_51 (by decide) ?_ ?_
          · exact v_sub (wMd_findRanks_58 l G (fMd_findRanks_14 k2 fuel) ih v1 v3 v2 M8) rfl
          · refine v_iconst (pc := 54) 1 dX10_findRanks_54 (by decide) ?_
            refine v_goto (pc := 55) 59 dX10_findRanks_55 (by decide) ?_
            exact v_sub (wMd_findRanks_59 l G (fMd_findRanks_14 k2 fuel) ih v1 v3 1 v2 M8) rfl
theorem wMd_findRanks_2 (l : Launch) (G : zG) : ∀ (fuel : Nat) (v1 : Int32) (M : zM), zV eV l G zLY zRY 3 yX10_findRanks cX10_findRanks 4 none 2 [(0, .ref 0), (1, .int v1)] [] M (fMd_findRanks_2 fuel v1 M) := by
  intro fuel
  induction fuel with
  | zero => intro v1 M; exact v_none
  | succ fuel ih =>
    intro v1 M
    rw [fMd_findRanks_2]
    refine v_iload_n (pc := 2) dX10_findRanks_2 rfl ?_
    refine v_aload_n (pc := 3) dX10_findRanks_3 rfl ?_
    refine v_getI (pc := 4) (q := 0) zk10 ly_0 rfl tw_1026 dX10_findRanks_4 ?_
    refine v_icmp_ge (pc := 7) 83 dX10_findRanks_7 (by decide) ?_ ?_
    · exact v_vret (pc := 83) dX10_findRanks_83
    · refine v_iconst (pc := 10) 0 dX10_findRanks_10 (by decide) ?_
      refine v_istore_n (pc := 11) dX10_findRanks_11 (by decide) ?_
      refine v_iconst (pc := 12) 0 dX10_findRanks_12 (by decide) ?_
      refine v_istore_n (pc := 13) dX10_findRanks_13 (by decide) ?_
      exact v_sub (wMd_findRanks_14 l G (fMd_findRanks_2 fuel) ih FU v1 0 0 M) rfl
theorem wMd_findRanks (l : Launch) (G : zG)  (M : zM) : zV eV l G zLY zRY 3 yX10_findRanks cX10_findRanks 4 none 0 [(0, .ref 0)] [] M (fMd_findRanks  M) := by
  rw [fMd_findRanks]
  refine v_iconst (pc := 0) 0 dX10_findRanks_0 (by decide) ?_
  refine v_istore_n (pc := 1) dX10_findRanks_1 (by decide) ?_
  exact v_sub (wMd_findRanks_2 l G FU 0 M) rfl
theorem cMd_findRanks (l : Launch) (G : zG)  (M : zM) : zC eV l G zLY zRY 3 yX10_findRanks cX10_findRanks 4 none [.ref 0] M (fMd_findRanks  M) := zC.of (by decide) (Nat.le_of_ble_eq_true rfl) (v_sub (wMd_findRanks l G  M) rfl)
theorem dX10_put_0 : decode cX10_put 0 = .ok (.aload_n 0, 1) := by decide +kernel
theorem dX10_put_1 : decode cX10_put 1 = .ok (.getfield 46, 3) := by decide +kernel
theorem dX10_put_4 : decode cX10_put 4 = .ok (.bipush 26, 2) := by decide +kernel
theorem dX10_put_6 : decode cX10_put 6 = .ok (.iload_n 1, 1) := by decide +kernel
theorem dX10_put_7 : decode cX10_put 7 = .ok (.imul, 1) := by decide +kernel
theorem dX10_put_8 : decode cX10_put 8 = .ok (.aload_n 0, 1) := by decide +kernel
theorem dX10_put_9 : decode cX10_put 9 = .ok (.getfield 43, 3) := by decide +kernel
theorem dX10_put_12 : decode cX10_put 12 = .ok (.iload_n 1, 1) := by decide +kernel
theorem dX10_put_13 : decode cX10_put 13 = .ok (.iaload, 1) := by decide +kernel
theorem dX10_put_14 : decode cX10_put 14 = .ok (.iadd, 1) := by decide +kernel
theorem dX10_put_15 : decode cX10_put 15 = .ok (.iload_n 2, 1) := by decide +kernel
theorem dX10_put_16 : decode cX10_put 16 = .ok (.iastore, 1) := by decide +kernel
theorem dX10_put_17 : decode cX10_put 17 = .ok (.aload_n 0, 1) := by decide +kernel
theorem dX10_put_18 : decode cX10_put 18 = .ok (.getfield 43, 3) := by decide +kernel
theorem dX10_put_21 : decode cX10_put 21 = .ok (.iload_n 1, 1) := by decide +kernel
theorem dX10_put_22 : decode cX10_put 22 = .ok (.dup2, 1) := by decide +kernel
theorem dX10_put_23 : decode cX10_put 23 = .ok (.iaload, 1) := by decide +kernel
theorem dX10_put_24 : decode cX10_put 24 = .ok (.iconst 1, 1) := by decide +kernel
theorem dX10_put_25 : decode cX10_put 25 = .ok (.iadd, 1) := by decide +kernel
theorem dX10_put_26 : decode cX10_put 26 = .ok (.iastore, 1) := by decide +kernel
theorem dX10_put_27 : decode cX10_put 27 = .ok (.return_, 1) := by decide +kernel
theorem wMd_put (l : Launch) (G : zG) (v1 : Int32) (v2 : Int32) (M : zM) : zV eV l G zLY zRY 1 yX10_put cX10_put 3 none 0 [(0, .ref 0), (1, .int v1), (2, .int v2)] [] M (fMd_put v1 v2 M) := by
  rw [fMd_put]
  refine v_aload_n (pc := 0) dX10_put_0 rfl ?_
  refine v_getR (pc := 1) (q := 16) zk10 ly_0 rfl ry_0_16 tw_1042 dX10_put_1 ?_
  refine v_bipush (pc := 4) 26 dX10_put_4 (by decide) ?_
  refine v_iload_n (pc := 6) dX10_put_6 rfl ?_
  refine v_imul (pc := 7) dX10_put_7 ?_
  refine v_aload_n (pc := 8) dX10_put_8 rfl ?_
  refine v_getR (pc := 9) (q := 15) zk10 ly_0 rfl ry_0_15 tw_1041 dX10_put_9 ?_
  refine v_iload_n (pc := 12) dX10_put_12 rfl ?_
  refine v_iald (pc := 13) ly_12 dX10_put_13 (fun x1 => ?_)
  refine v_iadd (pc := 14) dX10_put_14 ?_
  refine v_iload_n (pc := 15) dX10_put_15 rfl ?_
  refine v_iast (pc := 16) ly_13 dX10_put_16 (fun M2 => ?_)
  refine v_aload_n (pc := 17) dX10_put_17 rfl ?_
  refine v_getR (pc := 18) (q := 15) zk10 ly_0 rfl ry_0_15 tw_1041 dX10_put_18 ?_
  refine v_iload_n (pc := 21) dX10_put_21 rfl ?_
  refine v_dup2 (pc := 22) dX10_put_22 rfl rfl ?_
  refine v_iald (pc := 23) ly_12 dX10_put_23 (fun x3 => ?_)
  refine v_iconst (pc := 24) 1 dX10_put_24 (by decide) ?_
  refine v_iadd (pc := 25) dX10_put_25 ?_
  refine v_iast (pc := 26) ly_12 dX10_put_26 (fun M4 => ?_)
  exact v_vret (pc := 27) dX10_put_27
theorem cMd_put (l : Launch) (G : zG) (v1 : Int32) (v2 : Int32) (M : zM) : zC eV l G zLY zRY 1 yX10_put cX10_put 3 none [.ref 0, .int v1, .int v2] M (fMd_put v1 v2 M) := zC.of (by decide) (Nat.le_of_ble_eq_true rfl) (v_sub (wMd_put l G v1 v2 M) rfl)
theorem dX10_farOf_0 : decode cX10_farOf 0 = .ok (.iconst (-1), 1) := by decide +kernel
theorem dX10_farOf_1 : decode cX10_farOf 1 = .ok (.istore_n 3, 1) := by decide +kernel
theorem dX10_farOf_2 : decode cX10_farOf 2 = .ok (.iconst 0, 1) := by decide +kernel
theorem dX10_farOf_3 : decode cX10_farOf 3 = .ok (.istore 4, 2) := by decide +kernel
theorem dX10_farOf_5 : decode cX10_farOf 5 = .ok (.iload 4, 2) := by decide +kernel
theorem dX10_farOf_7 : decode cX10_farOf 7 = .ok (.iconst 1, 1) := by decide +kernel
theorem dX10_farOf_8 : decode cX10_farOf 8 = .ok (.iadd, 1) := by decide +kernel
theorem dX10_farOf_9 : decode cX10_farOf 9 = .ok (.aload_n 0, 1) := by decide +kernel
theorem dX10_farOf_10 : decode cX10_farOf 10 = .ok (.getfield 43, 3) := by decide +kernel
theorem dX10_farOf_13 : decode cX10_farOf 13 = .ok (.iload_n 1, 1) := by decide +kernel
theorem dX10_farOf_14 : decode cX10_farOf 14 = .ok (.iaload, 1) := by decide +kernel
theorem dX10_farOf_15 : decode cX10_farOf 15 = .ok (.if_icmp .ge 106, 3) := by decide +kernel
theorem dX10_farOf_18 : decode cX10_farOf 18 = .ok (.iconst 0, 1) := by decide +kernel
theorem dX10_farOf_19 : decode cX10_farOf 19 = .ok (.istore 5, 2) := by decide +kernel
theorem dX10_farOf_21 : decode cX10_farOf 21 = .ok (.iload 5, 2) := by decide +kernel
theorem dX10_farOf_23 : decode cX10_farOf 23 = .ok (.iconst 1, 1) := by decide +kernel
theorem dX10_farOf_24 : decode cX10_farOf 24 = .ok (.iadd, 1) := by decide +kernel
theorem dX10_farOf_25 : decode cX10_farOf 25 = .ok (.aload_n 0, 1) := by decide +kernel
theorem dX10_farOf_26 : decode cX10_farOf 26 = .ok (.getfield 43, 3) := by decide +kernel
theorem dX10_farOf_29 : decode cX10_farOf 29 = .ok (.iload_n 2, 1) := by decide +kernel
theorem dX10_farOf_30 : decode cX10_farOf 30 = .ok (.iaload, 1) := by decide +kernel
theorem dX10_farOf_31 : decode cX10_farOf 31 = .ok (.if_icmp .ge 84, 3) := by decide +kernel
theorem dX10_farOf_34 : decode cX10_farOf 34 = .ok (.aload_n 0, 1) := by decide +kernel
theorem dX10_farOf_35 : decode cX10_farOf 35 = .ok (.getfield 46, 3) := by decide +kernel
theorem dX10_farOf_38 : decode cX10_farOf 38 = .ok (.bipush 26, 2) := by decide +kernel
theorem dX10_farOf_40 : decode cX10_farOf 40 = .ok (.iload_n 1, 1) := by decide +kernel
theorem dX10_farOf_41 : decode cX10_farOf 41 = .ok (.imul, 1) := by decide +kernel
theorem dX10_farOf_42 : decode cX10_farOf 42 = .ok (.iload 4, 2) := by decide +kernel
theorem dX10_farOf_44 : decode cX10_farOf 44 = .ok (.iadd, 1) := by decide +kernel
theorem dX10_farOf_45 : decode cX10_farOf 45 = .ok (.iconst 1, 1) := by decide +kernel
theorem dX10_farOf_46 : decode cX10_farOf 46 = .ok (.iadd, 1) := by decide +kernel
theorem dX10_farOf_47 : decode cX10_farOf 47 = .ok (.iaload, 1) := by decide +kernel
theorem dX10_farOf_48 : decode cX10_farOf 48 = .ok (.aload_n 0, 1) := by decide +kernel
theorem dX10_farOf_49 : decode cX10_farOf 49 = .ok (.getfield 46, 3) := by decide +kernel
theorem dX10_farOf_52 : decode cX10_farOf 52 = .ok (.bipush 26, 2) := by decide +kernel
theorem dX10_farOf_54 : decode cX10_farOf 54 = .ok (.iload_n 2, 1) := by decide +kernel
theorem dX10_farOf_55 : decode cX10_farOf 55 = .ok (.imul, 1) := by decide +kernel
theorem dX10_farOf_56 : decode cX10_farOf 56 = .ok (.iload 5, 2) := by decide +kernel
theorem dX10_farOf_58 : decode cX10_farOf 58 = .ok (.iadd, 1) := by decide +kernel
theorem dX10_farOf_59 : decode cX10_farOf 59 = .ok (.iconst 1, 1) := by decide +kernel
theorem dX10_farOf_60 : decode cX10_farOf 60 = .ok (.iadd, 1) := by decide +kernel
theorem dX10_farOf_61 : decode cX10_farOf 61 = .ok (.iaload, 1) := by decide +kernel
theorem dX10_farOf_62 : decode cX10_farOf 62 = .ok (.iadd, 1) := by decide +kernel
theorem dX10_farOf_63 : decode cX10_farOf 63 = .ok (.istore 6, 2) := by decide +kernel
theorem dX10_farOf_65 : decode cX10_farOf 65 = .ok (.aload_n 0, 1) := by decide +kernel
theorem dX10_farOf_66 : decode cX10_farOf 66 = .ok (.getfield 46, 3) := by decide +kernel
theorem dX10_farOf_69 : decode cX10_farOf 69 = .ok (.bipush 26, 2) := by decide +kernel
theorem dX10_farOf_71 : decode cX10_farOf 71 = .ok (.iload_n 1, 1) := by decide +kernel
theorem dX10_farOf_72 : decode cX10_farOf 72 = .ok (.imul, 1) := by decide +kernel
theorem dX10_farOf_73 : decode cX10_farOf 73 = .ok (.iload 4, 2) := by decide +kernel
theorem dX10_farOf_75 : decode cX10_farOf 75 = .ok (.iadd, 1) := by decide +kernel
theorem dX10_farOf_76 : decode cX10_farOf 76 = .ok (.iaload, 1) := by decide +kernel
theorem dX10_farOf_77 : decode cX10_farOf 77 = .ok (.aload_n 0, 1) := by decide +kernel
theorem dX10_farOf_78 : decode cX10_farOf 78 = .ok (.getfield 46, 3) := by decide +kernel
theorem dX10_farOf_81 : decode cX10_farOf 81 = .ok (.bipush 26, 2) := by decide +kernel
theorem dX10_farOf_83 : decode cX10_farOf 83 = .ok (.iload_n 2, 1) := by decide +kernel
theorem dX10_farOf_84 : decode cX10_farOf 84 = .ok (.imul, 1) := by decide +kernel
theorem dX10_farOf_85 : decode cX10_farOf 85 = .ok (.iload 5, 2) := by decide +kernel
theorem dX10_farOf_87 : decode cX10_farOf 87 = .ok (.iadd, 1) := by decide +kernel
theorem dX10_farOf_88 : decode cX10_farOf 88 = .ok (.iaload, 1) := by decide +kernel
theorem dX10_farOf_89 : decode cX10_farOf 89 = .ok (.if_icmp .ne 18, 3) := by decide +kernel
theorem dX10_farOf_92 : decode cX10_farOf 92 = .ok (.iload_n 3, 1) := by decide +kernel
theorem dX10_farOf_93 : decode cX10_farOf 93 = .ok (.ifCond .lt 9, 3) := by decide +kernel
theorem dX10_farOf_96 : decode cX10_farOf 96 = .ok (.iload 6, 2) := by decide +kernel
theorem dX10_farOf_98 : decode cX10_farOf 98 = .ok (.iload_n 3, 1) := by decide +kernel
theorem dX10_farOf_99 : decode cX10_farOf 99 = .ok (.if_icmp .ge 8, 3) := by decide +kernel
theorem dX10_farOf_102 : decode cX10_farOf 102 = .ok (.iload 6, 2) := by decide +kernel
theorem dX10_farOf_104 : decode cX10_farOf 104 = .ok (.goto 4, 3) := by decide +kernel
theorem dX10_farOf_107 : decode cX10_farOf 107 = .ok (.iload_n 3, 1) := by decide +kernel
theorem dX10_farOf_108 : decode cX10_farOf 108 = .ok (.istore_n 3, 1) := by decide +kernel
theorem dX10_farOf_109 : decode cX10_farOf 109 = .ok (.iinc 5 2, 3) := by decide +kernel
theorem dX10_farOf_112 : decode cX10_farOf 112 = .ok (.goto (-91), 3) := by decide +kernel
theorem dX10_farOf_115 : decode cX10_farOf 115 = .ok (.iinc 4 2, 3) := by decide +kernel
theorem dX10_farOf_118 : decode cX10_farOf 118 = .ok (.goto (-113), 3) := by decide +kernel
theorem dX10_farOf_121 : decode cX10_farOf 121 = .ok (.iload_n 3, 1) := by decide +kernel
theorem dX10_farOf_122 : decode cX10_farOf 122 = .ok (.ireturn, 1) := by decide +kernel
theorem wMd_farOf_21 (l : Launch) (G : zG) (k5 : Int32 → Int32 → Int32 → Int32 → zM → Option (Int32 × zM)) (hk5 : ∀ (v1 : Int32) (v2 : Int32) (v3 : Int32) (v4 : Int32) (M : zM), zV eI l G zLY zRY 1 yX10_farOf cX10_farOf 7 (some .int) 5 [(0, .ref 0), (1, .int v1), (2, .int v2), (3, .int v3), (4, .int v4)] [] M (k5 v1 v2 v3 v4 M)) : ∀ (fuel : Nat) (v1 : Int32) (v2 : Int32) (v3 : Int32) (v4 : Int32) (v5 : Int32) (M : zM), zV eI l G zLY zRY 1 yX10_farOf cX10_farOf 7 (some .int) 21 [(0, .ref 0), (1, .int v1), (2, .int v2), (3, .int v3), (4, .int v4), (5, .int v5)] [] M (fMd_farOf_21 k5 fuel v1 v2 v3 v4 v5 M) := by
  intro fuel
  induction fuel with
  | zero => intro v1 v2 v3 v4 v5 M; exact v_none
  | succ fuel ih =>
    intro v1 v2 v3 v4 v5 M
    rw [fMd_farOf_21]
    refine v_iload (pc := 21) dX10_farOf_21 rfl ?_
    refine v_iconst (pc := 23) 1 dX10_farOf_23 (by decide) ?_
    refine v_iadd (pc := 24) dX10_farOf_24 ?_
    refine v_aload_n (pc := 25) dX10_farOf_25 rfl ?_
    refine v_getR (pc := 26) (q := 15) zk10 ly_0 rfl ry_0_15 tw_1041 dX10_farOf_26 ?_
    refine v_iload_n (pc := 29) dX10_farOf_29 rfl ?_
    refine v_iald (pc := 30) ly_12 dX10_farOf_30 (fun x1 => ?_)
    refine v_icmp_ge (pc := 31) 115 dX10_farOf_31 (by decide) ?_ ?_
    · refine v_iinc (pc := 115) 2 dX10_farOf_115 rfl (by decide) (by decide) ?_
      refine v_goto (pc := 118) 5 dX10_farOf_118 (by decide) ?_
      exact v_sub (hk5 v1 v2 v3 (v4 + 2) M) rfl
    · refine v_aload_n (pc := 34) dX10_farOf_34 rfl ?_
      refine v_getR (pc := 35) (q := 16) zk10 ly_0 rfl ry_0_16 tw_1042 dX10_farOf_35 ?_
      refine v_bipush (pc := 38) 26 dX10_farOf_38 (by decide) ?_
      refine v_iload_n (pc := 40) dX10_farOf_40 rfl ?_
      refine v_imul (pc := 41) dX10_farOf_41 ?_
      refine v_iload (pc := 42) dX10_farOf_42 rfl ?_
      refine v_iadd (pc := 44) dX10_farOf_44 ?_
      refine v_iconst (pc := 45) 1 dX10_farOf_45 (by decide) ?_
      refine v_iadd (pc := 46) dX10_farOf_46 ?_
      refine v_iald (pc := 47) ly_13 dX10_farOf_47 (fun x2 => ?_)
      refine v_aload_n (pc := 48) dX10_farOf_48 rfl ?_
      refine v_getR (pc := 49) (q := 16) zk10 ly_0 rfl ry_0_16 tw_1042 dX10_farOf_49 ?_
      refine v_bipush (pc := 52) 26 dX10_farOf_52 (by decide) ?_
      refine v_iload_n (pc := 54) dX10_farOf_54 rfl ?_
      refine v_imul (pc := 55) dX10_farOf_55 ?_
      refine v_iload (pc := 56) dX10_farOf_56 rfl ?_
      refine v_iadd (pc := 58) dX10_farOf_58 ?_
      refine v_iconst (pc := 59) 1 dX10_farOf_59 (by decide) ?_
      refine v_iadd (pc := 60) dX10_farOf_60 ?_
      refine v_iald (pc := 61) ly_13 dX10_farOf_61 (fun x3 => ?_)
      refine v_iadd (pc := 62) dX10_farOf_62 ?_
      refine v_istoreL (pc := 63) dX10_farOf_63 (by decide) (fun u6_63 => ?_)
      refine v_aload_n (pc := 65) dX10_farOf_65 rfl ?_
      refine v_getR (pc := 66) (q := 16) zk10 ly_0 rfl ry_0_16 tw_1042 dX10_farOf_66 ?_
      refine v_bipush (pc := 69) 26 dX10_farOf_69 (by decide) ?_
      refine v_iload_n (pc := 71) dX10_farOf_71 rfl ?_
      refine v_imul (pc := 72) dX10_farOf_72 ?_
      refine v_iload (pc := 73) dX10_farOf_73 rfl ?_
      refine v_iadd (pc := 75) dX10_farOf_75 ?_
      refine v_iald (pc := 76) ly_13 dX10_farOf_76 (fun x4 => ?_)
      refine v_aload_n (pc := 77) dX10_farOf_77 rfl ?_
      refine v_getR (pc := 78) (q := 16) zk10 ly_0 rfl ry_0_16 tw_1042 dX10_farOf_78 ?_
      refine v_bipush (pc := 81) 26 dX10_farOf_81 (by decide) ?_
      refine v_iload_n (pc := 83) dX10_farOf_83 rfl ?_
      refine v_imul (pc := 84) dX10_farOf_84 ?_
      refine v_iload (pc := 85) dX10_farOf_85 rfl ?_
      refine v_iadd (pc := 87) dX10_farOf_87 ?_
      refine v_iald (pc := 88) ly_13 dX10_farOf_88 (fun x5 => ?_)
      refine v_icmp_ne (pc := 89) 107 dX10_farOf_89 (by decide) ?_ ?_
      · refine v_iload_n (pc := 107) dX10_farOf_107 rfl ?_
        refine v_istore_n (pc := 108) dX10_farOf_108 (by decide) ?_
        refine v_iinc (pc := 109) 2 dX10_farOf_109 rfl (by decide) (by decide) ?_
        refine v_goto (pc := 112) 21 dX10_farOf_112 (by decide) ?_
        exact v_sub (ih v1 v2 v3 v4 (v5 + 2) M) rfl
      · refine v_iload_n (pc := 92) dX10_farOf_92 rfl ?_
        refine v_if_lt (pc := 93) 102 dX10_farOf_93 (by decide) ?_ ?_
        · refine v_iload (pc := 102) dX10_farOf_102 rfl ?_
          refine v_goto (pc := 104) 108 dX10_farOf_104 (by decide) ?_
          refine v_istore_n (pc := 108) dX10_farOf_108 (by decide) ?_
          refine v_iinc (pc := 109) 2 dX10_farOf_109 rfl (by decide) (by decide) ?_
          refine v_goto (pc := 112) 21 dX10_farOf_112 (by decide) ?_
          exact v_sub (ih v1 v2 u6_63 v4 (v5 + 2) M) rfl
        · refine v_iload (pc := 96) dX10_farOf_96 rfl ?_
          refine v_iload_n (pc := 98) dX10_farOf_98 rfl ?_
          refine v_icmp_ge (pc := 99) 107 dX10_farOf_99 (by decide) ?_ ?_
          · refine v_iload_n (pc := 107) dX10_farOf_107 rfl ?_
            refine v_istore_n (pc := 108) dX10_farOf_108 (by decide) ?_
            refine v_iinc (pc := 109) 2 dX10_farOf_109 rfl (by decide) (by decide) ?_
            refine v_goto (pc := 112) 21 dX10_farOf_112 (by decide) ?_
            exact v_sub (ih v1 v2 v3 v4 (v5 + 2) M) rfl
          · refine v_iload (pc := 102) dX10_farOf_102 rfl ?_
            refine v_goto (pc := 104) 108 dX10_farOf_104 (by decide) ?_
            refine v_istore_n (pc := 108) dX10_farOf_108 (by decide) ?_
            refine v_iinc (pc := 109) 2 dX10_farOf_109 rfl (by decide) (by decide) ?_
            refine v_goto (pc := 112) 21 dX10_farOf_112 (by decide) ?_
            exact v_sub (ih v1 v2 u6_63 v4 (v5 + 2) M) rfl
theorem wMd_farOf_5 (l : Launch) (G : zG) : ∀ (fuel : Nat) (v1 : Int32) (v2 : Int32) (v3 : Int32) (v4 : Int32) (M : zM), zV eI l G zLY zRY 1 yX10_farOf cX10_farOf 7 (some .int) 5 [(0, .ref 0), (1, .int v1), (2, .int v2), (3, .int v3), (4, .int v4)] [] M (fMd_farOf_5 fuel v1 v2 v3 v4 M) := by
  intro fuel
  induction fuel with
  | zero => intro v1 v2 v3 v4 M; exact v_none
  | succ fuel ih =>
    intro v1 v2 v3 v4 M
    rw [fMd_farOf_5]
    refine v_iload (pc := 5) dX10_farOf_5 rfl ?_
    refine v_iconst (pc := 7) 1 dX10_farOf_7 (by decide) ?_
    refine v_iadd (pc := 8) dX10_farOf_8 ?_
    refine v_aload_n (pc := 9) dX10_farOf_9 rfl ?_
    refine v_getR (pc := 10) (q := 15) zk10 ly_0 rfl ry_0_15 tw_1041 dX10_farOf_10 ?_
    refine v_iload_n (pc := 13) dX10_farOf_13 rfl ?_
    refine v_iald (pc := 14) ly_12 dX10_farOf_14 (fun x1 => ?_)
    refine v_icmp_ge (pc := 15) 121 dX10_farOf_15 (by decide) ?_ ?_
    · refine v_iload_n (pc := 121) dX10_farOf_121 rfl ?_
      exact v_iret (pc := 122) dX10_farOf_122
    · refine v_iconst (pc := 18) 0 dX10_farOf_18 (by decide) ?_
      refine v_istore (pc := 19) dX10_farOf_19 (by decide) ?_
      exact v_sub (wMd_farOf_21 l G (fMd_farOf_5 fuel) ih FU v1 v2 v3 v4 0 M) rfl
theorem wMd_farOf (l : Launch) (G : zG) (v1 : Int32) (v2 : Int32) (M : zM) : zV eI l G zLY zRY 1 yX10_farOf cX10_farOf 7 (some .int) 0 [(0, .ref 0), (1, .int v1), (2, .int v2)] [] M (fMd_farOf v1 v2 M) := by
  rw [fMd_farOf]
  refine v_iconst (pc := 0) (-1) dX10_farOf_0 (by decide) ?_
  refine v_istore_n (pc := 1) dX10_farOf_1 (by decide) ?_
  refine v_iconst (pc := 2) 0 dX10_farOf_2 (by decide) ?_
  refine v_istore (pc := 3) dX10_farOf_3 (by decide) ?_
  exact v_sub (wMd_farOf_5 l G FU v1 v2 (-1) 0 M) rfl
theorem cMd_farOf (l : Launch) (G : zG) (v1 : Int32) (v2 : Int32) (M : zM) : zC eI l G zLY zRY 1 yX10_farOf cX10_farOf 7 (some .int) [.ref 0, .int v1, .int v2] M (fMd_farOf v1 v2 M) := zC.of (by decide) (Nat.le_of_ble_eq_true rfl) (v_sub (wMd_farOf l G v1 v2 M) rfl)
theorem dX10_goFrom_0 : decode cX10_goFrom 0 = .ok (.iconst 0, 1) := by decide +kernel
theorem dX10_goFrom_1 : decode cX10_goFrom 1 = .ok (.istore_n 2, 1) := by decide +kernel
theorem dX10_goFrom_2 : decode cX10_goFrom 2 = .ok (.iload_n 2, 1) := by decide +kernel
theorem dX10_goFrom_3 : decode cX10_goFrom 3 = .ok (.aload_n 0, 1) := by decide +kernel
theorem dX10_goFrom_4 : decode cX10_goFrom 4 = .ok (.getfield 99, 3) := by decide +kernel
theorem dX10_goFrom_7 : decode cX10_goFrom 7 = .ok (.if_icmp .ge 16, 3) := by decide +kernel
theorem dX10_goFrom_10 : decode cX10_goFrom 10 = .ok (.aload_n 0, 1) := by decide +kernel
theorem dX10_goFrom_11 : decode cX10_goFrom 11 = .ok (.getfield 52, 3) := by decide +kernel
theorem dX10_goFrom_14 : decode cX10_goFrom 14 = .ok (.iload_n 2, 1) := by decide +kernel
theorem dX10_goFrom_15 : decode cX10_goFrom 15 = .ok (.iconst (-1), 1) := by decide +kernel
theorem dX10_goFrom_16 : decode cX10_goFrom 16 = .ok (.iastore, 1) := by decide +kernel
theorem dX10_goFrom_17 : decode cX10_goFrom 17 = .ok (.iinc 2 1, 3) := by decide +kernel
theorem dX10_goFrom_20 : decode cX10_goFrom 20 = .ok (.goto (-18), 3) := by decide +kernel
theorem dX10_goFrom_23 : decode cX10_goFrom 23 = .ok (.aload_n 0, 1) := by decide +kernel
theorem dX10_goFrom_24 : decode cX10_goFrom 24 = .ok (.getfield 52, 3) := by decide +kernel
theorem dX10_goFrom_27 : decode cX10_goFrom 27 = .ok (.iload_n 1, 1) := by decide +kernel
theorem dX10_goFrom_28 : decode cX10_goFrom 28 = .ok (.iconst 0, 1) := by decide +kernel
theorem dX10_goFrom_29 : decode cX10_goFrom 29 = .ok (.iastore, 1) := by decide +kernel
theorem dX10_goFrom_30 : decode cX10_goFrom 30 = .ok (.aload_n 0, 1) := by decide +kernel
theorem dX10_goFrom_31 : decode cX10_goFrom 31 = .ok (.getfield 28, 3) := by decide +kernel
theorem dX10_goFrom_34 : decode cX10_goFrom 34 = .ok (.iconst 0, 1) := by decide +kernel
theorem dX10_goFrom_35 : decode cX10_goFrom 35 = .ok (.iload_n 1, 1) := by decide +kernel
theorem dX10_goFrom_36 : decode cX10_goFrom 36 = .ok (.iastore, 1) := by decide +kernel
theorem dX10_goFrom_37 : decode cX10_goFrom 37 = .ok (.iconst 0, 1) := by decide +kernel
theorem dX10_goFrom_38 : decode cX10_goFrom 38 = .ok (.istore_n 2, 1) := by decide +kernel
theorem dX10_goFrom_39 : decode cX10_goFrom 39 = .ok (.iconst 1, 1) := by decide +kernel
theorem dX10_goFrom_40 : decode cX10_goFrom 40 = .ok (.istore_n 3, 1) := by decide +kernel
theorem dX10_goFrom_41 : decode cX10_goFrom 41 = .ok (.iload_n 2, 1) := by decide +kernel
theorem dX10_goFrom_42 : decode cX10_goFrom 42 = .ok (.iload_n 3, 1) := by decide +kernel
theorem dX10_goFrom_43 : decode cX10_goFrom 43 = .ok (.if_icmp .ge 134, 3) := by decide +kernel
theorem dX10_goFrom_46 : decode cX10_goFrom 46 = .ok (.aload_n 0, 1) := by decide +kernel
theorem dX10_goFrom_47 : decode cX10_goFrom 47 = .ok (.getfield 28, 3) := by decide +kernel
theorem dX10_goFrom_50 : decode cX10_goFrom 50 = .ok (.iload_n 2, 1) := by decide +kernel
theorem dX10_goFrom_51 : decode cX10_goFrom 51 = .ok (.iaload, 1) := by decide +kernel
theorem dX10_goFrom_52 : decode cX10_goFrom 52 = .ok (.istore 4, 2) := by decide +kernel
theorem dX10_goFrom_54 : decode cX10_goFrom 54 = .ok (.iinc 2 1, 3) := by decide +kernel
theorem dX10_goFrom_57 : decode cX10_goFrom 57 = .ok (.aload_n 0, 1) := by decide +kernel
theorem dX10_goFrom_58 : decode cX10_goFrom 58 = .ok (.iload_n 1, 1) := by decide +kernel
theorem dX10_goFrom_59 : decode cX10_goFrom 59 = .ok (.iload 4, 2) := by decide +kernel
theorem dX10_goFrom_61 : decode cX10_goFrom 61 = .ok (.invokevirtual 143, 3) := by decide +kernel
theorem dX10_goFrom_64 : decode cX10_goFrom 64 = .ok (.istore 5, 2) := by decide +kernel
theorem dX10_goFrom_66 : decode cX10_goFrom 66 = .ok (.iload 5, 2) := by decide +kernel
theorem dX10_goFrom_68 : decode cX10_goFrom 68 = .ok (.ifCond .lt 15, 3) := by decide +kernel
theorem dX10_goFrom_71 : decode cX10_goFrom 71 = .ok (.iload 5, 2) := by decide +kernel
theorem dX10_goFrom_73 : decode cX10_goFrom 73 = .ok (.aload_n 0, 1) := by decide +kernel
theorem dX10_goFrom_74 : decode cX10_goFrom 74 = .ok (.getfield 52, 3) := by decide +kernel
theorem dX10_goFrom_77 : decode cX10_goFrom 77 = .ok (.iload 4, 2) := by decide +kernel
theorem dX10_goFrom_79 : decode cX10_goFrom 79 = .ok (.iaload, 1) := by decide +kernel
theorem dX10_goFrom_80 : decode cX10_goFrom 80 = .ok (.if_icmp .le 94, 3) := by decide +kernel
theorem dX10_goFrom_83 : decode cX10_goFrom 83 = .ok (.aload_n 0, 1) := by decide +kernel
theorem dX10_goFrom_84 : decode cX10_goFrom 84 = .ok (.iload 4, 2) := by decide +kernel
theorem dX10_goFrom_86 : decode cX10_goFrom 86 = .ok (.aload_n 0, 1) := by decide +kernel
theorem dX10_goFrom_87 : decode cX10_goFrom 87 = .ok (.getfield 40, 3) := by decide +kernel
theorem dX10_goFrom_90 : decode cX10_goFrom 90 = .ok (.iload_n 1, 1) := by decide +kernel
theorem dX10_goFrom_91 : decode cX10_goFrom 91 = .ok (.iaload, 1) := by decide +kernel
theorem dX10_goFrom_92 : decode cX10_goFrom 92 = .ok (.invokevirtual 146, 3) := by decide +kernel
theorem dX10_goFrom_95 : decode cX10_goFrom 95 = .ok (.aload_n 0, 1) := by decide +kernel
theorem dX10_goFrom_96 : decode cX10_goFrom 96 = .ok (.iload 4, 2) := by decide +kernel
theorem dX10_goFrom_98 : decode cX10_goFrom 98 = .ok (.aload_n 0, 1) := by decide +kernel
theorem dX10_goFrom_99 : decode cX10_goFrom 99 = .ok (.getfield 52, 3) := by decide +kernel
theorem dX10_goFrom_102 : decode cX10_goFrom 102 = .ok (.iload 4, 2) := by decide +kernel
theorem dX10_goFrom_104 : decode cX10_goFrom 104 = .ok (.iaload, 1) := by decide +kernel
theorem dX10_goFrom_105 : decode cX10_goFrom 105 = .ok (.invokevirtual 146, 3) := by decide +kernel
theorem dX10_goFrom_108 : decode cX10_goFrom 108 = .ok (.iconst 0, 1) := by decide +kernel
theorem dX10_goFrom_109 : decode cX10_goFrom 109 = .ok (.istore 6, 2) := by decide +kernel
theorem dX10_goFrom_111 : decode cX10_goFrom 111 = .ok (.iload 6, 2) := by decide +kernel
theorem dX10_goFrom_113 : decode cX10_goFrom 113 = .ok (.aload_n 0, 1) := by decide +kernel
theorem dX10_goFrom_114 : decode cX10_goFrom 114 = .ok (.getfield 99, 3) := by decide +kernel
theorem dX10_goFrom_117 : decode cX10_goFrom 117 = .ok (.if_icmp .ge 57, 3) := by decide +kernel
theorem dX10_goFrom_120 : decode cX10_goFrom 120 = .ok (.aload_n 0, 1) := by decide +kernel
theorem dX10_goFrom_121 : decode cX10_goFrom 121 = .ok (.getfield 52, 3) := by decide +kernel
theorem dX10_goFrom_124 : decode cX10_goFrom 124 = .ok (.iload 6, 2) := by decide +kernel
theorem dX10_goFrom_126 : decode cX10_goFrom 126 = .ok (.iaload, 1) := by decide +kernel
theorem dX10_goFrom_127 : decode cX10_goFrom 127 = .ok (.ifCond .ge 41, 3) := by decide +kernel
theorem dX10_goFrom_130 : decode cX10_goFrom 130 = .ok (.aload_n 0, 1) := by decide +kernel
theorem dX10_goFrom_131 : decode cX10_goFrom 131 = .ok (.iload 4, 2) := by decide +kernel
theorem dX10_goFrom_133 : decode cX10_goFrom 133 = .ok (.iload 6, 2) := by decide +kernel
theorem dX10_goFrom_135 : decode cX10_goFrom 135 = .ok (.invokevirtual 119, 3) := by decide +kernel
theorem dX10_goFrom_138 : decode cX10_goFrom 138 = .ok (.ifCond .lt 30, 3) := by decide +kernel
theorem dX10_goFrom_141 : decode cX10_goFrom 141 = .ok (.aload_n 0, 1) := by decide +kernel
theorem dX10_goFrom_142 : decode cX10_goFrom 142 = .ok (.getfield 52, 3) := by decide +kernel
theorem dX10_goFrom_145 : decode cX10_goFrom 145 = .ok (.iload 6, 2) := by decide +kernel
theorem dX10_goFrom_147 : decode cX10_goFrom 147 = .ok (.aload_n 0, 1) := by decide +kernel
theorem dX10_goFrom_148 : decode cX10_goFrom 148 = .ok (.getfield 52, 3) := by decide +kernel
theorem dX10_goFrom_151 : decode cX10_goFrom 151 = .ok (.iload 4, 2) := by decide +kernel
theorem dX10_goFrom_153 : decode cX10_goFrom 153 = .ok (.iaload, 1) := by decide +kernel
theorem dX10_goFrom_154 : decode cX10_goFrom 154 = .ok (.iconst 1, 1) := by decide +kernel
theorem dX10_goFrom_155 : decode cX10_goFrom 155 = .ok (.iadd, 1) := by decide +kernel
theorem dX10_goFrom_156 : decode cX10_goFrom 156 = .ok (.iastore, 1) := by decide +kernel
theorem dX10_goFrom_157 : decode cX10_goFrom 157 = .ok (.aload_n 0, 1) := by decide +kernel
theorem dX10_goFrom_158 : decode cX10_goFrom 158 = .ok (.getfield 28, 3) := by decide +kernel
theorem dX10_goFrom_161 : decode cX10_goFrom 161 = .ok (.iload_n 3, 1) := by decide +kernel
theorem dX10_goFrom_162 : decode cX10_goFrom 162 = .ok (.iload 6, 2) := by decide +kernel
theorem dX10_goFrom_164 : decode cX10_goFrom 164 = .ok (.iastore, 1) := by decide +kernel
theorem dX10_goFrom_165 : decode cX10_goFrom 165 = .ok (.iinc 3 1, 3) := by decide +kernel
theorem dX10_goFrom_168 : decode cX10_goFrom 168 = .ok (.iinc 6 1, 3) := by decide +kernel
theorem dX10_goFrom_171 : decode cX10_goFrom 171 = .ok (.goto (-60), 3) := by decide +kernel
theorem dX10_goFrom_174 : decode cX10_goFrom 174 = .ok (.goto (-133), 3) := by decide +kernel
theorem dX10_goFrom_177 : decode cX10_goFrom 177 = .ok (.return_, 1) := by decide +kernel
theorem wMd_goFrom_111 (l : Launch) (G : zG) (k41 : Int32 → Int32 → Int32 → zM → Option (Unit × zM)) (hk41 : ∀ (v1 : Int32) (v2 : Int32) (v3 : Int32) (M : zM), zV eV l G zLY zRY 2 yX10_goFrom cX10_goFrom 7 none 41 [(0, .ref 0), (1, .int v1), (2, .int v2), (3, .int v3)] [] M (k41 v1 v2 v3 M)) : ∀ (fuel : Nat) (v1 : Int32) (v2 : Int32) (v3 : Int32) (v4 : Int32) (v6 : Int32) (M : zM), zV eV l G zLY zRY 2 yX10_goFrom cX10_goFrom 7 none 111 [(0, .ref 0), (1, .int v1), (2, .int v2), (3, .int v3), (4, .int v4), (6, .int v6)] [] M (fMd_goFrom_111 k41 fuel v1 v2 v3 v4 v6 M) := by
  intro fuel
  induction fuel with
  | zero => intro v1 v2 v3 v4 v6 M; exact v_none
  | succ fuel ih =>
    intro v1 v2 v3 v4 v6 M
    rw [fMd_goFrom_111]
    refine v_iload (pc := 111) dX10_goFrom_111 rfl ?_
    refine v_aload_n (pc := 113) dX10_goFrom_113 rfl ?_
    refine v_getI (pc := 114) (q := 0) zk10 ly_0 rfl tw_1026 dX10_goFrom_114 ?_
    refine v_icmp_ge (pc := 117) 174 dX10_goFrom_117 (by decide) ?_ ?_
    · refine v_goto (pc := 174) 41 dX10_goFrom_174 (by decide) ?_
      exact v_sub (hk41 v1 v2 v3 M) rfl
    · refine v_aload_n (pc := 120) dX10_goFrom_120 rfl ?_
      refine v_getR (pc := 121) (q := 18) zk10 ly_0 rfl ry_0_18 tw_1044 dX10_goFrom_121 ?_
      refine v_iload (pc := 124) dX10_goFrom_124 rfl ?_
      refine v_iald (pc := 126) ly_15 dX10_goFrom_126 (fun x1 => ?_)
      refine v_if_ge (pc := 127) 168 dX10_goFrom_127 (by decide) ?_ ?_
      · refine v_iinc (pc := 168) 1 dX10_goFrom_168 rfl (by decide) (by decide) ?_
        refine v_goto (pc := 171) 111 dX10_goFrom_171 (by decide) ?_
        exact v_sub (ih v1 v2 v3 v4 (v6 + 1) M) rfl
      · refine v_aload_n (pc := 130) dX10_goFrom_130 rfl ?_
        refine v_iload (pc := 131) dX10_goFrom_131 rfl ?_
        refine v_iload (pc := 133) dX10_goFrom_133 rfl ?_
        refine v_callV (pc := 135) (As := [.int v4, .int v6]) (cMd_lineOf l G v4 v6 M) zc_X10_lineOf zk10 rfl ly_0 tw_1168 (by decide) (Nat.le_of_ble_eq_true rfl) dX10_goFrom_135 (fun r3 M2 => ?_)
        refine v_if_lt (pc := 138) 168 dX10_goFrom_138 (by decide) ?_ ?_
        · refine v_iinc (pc := 168) 1 dX10_goFrom_168 rfl (by decide) (by decide) ?_
          refine v_goto (pc := 171) 111 dX10_goFrom_171 (by decide) ?_
          exact v_sub (ih v1 v2 v3 v4 (v6 + 1) M2) rfl
        · refine v_aload_n (pc := 141) dX10_goFrom_141 rfl ?_
          refine v_getR (pc := 142) (q := 18) zk10 ly_0 rfl ry_0_18 tw_1044 dX10_goFrom_142 ?_
          refine v_iload (pc := 145) dX10_goFrom_145 rfl ?_
          refine v_aload_n (pc := 147) dX10_goFrom_147 rfl ?_
          refine v_getR (pc := 148) (q := 18) zk10 ly_0 rfl ry_0_18 tw_1044 dX10_goFrom_148 ?_
          refine v_iload (pc := 151) dX10_goFrom_151 rfl ?_
          refine v_iald (pc := 153) ly_15 dX10_goFrom_153 (fun x4 => ?_)
          refine v_iconst (pc := 154) 1 dX10_goFrom_154 (by decide) ?_
          refine v_iadd (pc := 155) dX10_goFrom_155 ?_
          refine v_iast (pc := 156) ly_15 dX10_goFrom_156 (fun M5 => ?_)
          refine v_aload_n (pc := 157) dX10_goFrom_157 rfl ?_
          refine v_getR (pc := 158) (q := 8) zk10 ly_0 rfl ry_0_8 tw_1034 dX10_goFrom_158 ?_
          refine v_iload_n (pc := 161) dX10_goFrom_161 rfl ?_
          refine v_iload (pc := 162) dX10_goFrom_162 rfl ?_
          refine v_iast (pc := 164) ly_7 dX10_goFrom_164 (fun M6 => ?_)
          refine v_iinc (pc := 165) 1 dX10_goFrom_165 rfl (by decide) (by decide) ?_
          refine v_iinc (pc := 168) 1 dX10_goFrom_168 rfl (by decide) (by decide) ?_
          refine v_goto (pc := 171) 111 dX10_goFrom_171 (by decide) ?_
          exact v_sub (ih v1 v2 (v3 + 1) v4 (v6 + 1) M6) rfl
theorem wMd_goFrom_83 (l : Launch) (G : zG) (k41 : Int32 → Int32 → Int32 → zM → Option (Unit × zM)) (hk41 : ∀ (v1 : Int32) (v2 : Int32) (v3 : Int32) (M : zM), zV eV l G zLY zRY 2 yX10_goFrom cX10_goFrom 7 none 41 [(0, .ref 0), (1, .int v1), (2, .int v2), (3, .int v3)] [] M (k41 v1 v2 v3 M)) (v1 : Int32) (v2 : Int32) (v3 : Int32) (v4 : Int32) (M : zM) : zV eV l G zLY zRY 2 yX10_goFrom cX10_goFrom 7 none 83 [(0, .ref 0), (1, .int v1), (2, .int v2), (3, .int v3), (4, .int v4)] [] M (fMd_goFrom_83 k41 v1 v2 v3 v4 M) := by
  rw [fMd_goFrom_83]
  refine v_aload_n (pc := 83) dX10_goFrom_83 rfl ?_
  refine v_iload (pc := 84) dX10_goFrom_84 rfl ?_
  refine v_aload_n (pc := 86) dX10_goFrom_86 rfl ?_
  refine v_getR (pc := 87) (q := 14) zk10 ly_0 rfl ry_0_14 tw_1040 dX10_goFrom_87 ?_
  refine v_iload_n (pc := 90) dX10_goFrom_90 rfl ?_
  refine v_iald (pc := 91) ly_11 dX10_goFrom_91 (fun x1 => ?_)
  refine v_callV (pc := 92) (As := [.int v4, .int x1]) (cMd_put l G v4 x1 M) zc_X10_put zk10 rfl ly_0 tw_1248 (by decide) (Nat.le_of_ble_eq_true rfl) dX10_goFrom_92 (fun _ M2 => ?_)
  skip
  refine v_aload_n (pc := 95) dX10_goFrom_95 rfl ?_
  refine v_iload (pc := 96) dX10_goFrom_96 rfl ?_
  refine v_aload_n (pc := 98) dX10_goFrom_98 rfl ?_
  refine v_getR (pc := 99) (q := 18) zk10 ly_0 rfl ry_0_18 tw_1044 dX10_goFrom_99 ?_
  refine v_iload (pc := 102) dX10_goFrom_102 rfl ?_
  refine v_iald (pc := 104) ly_15 dX10_goFrom_104 (fun x3 => ?_)
  refine v_callV (pc := 105) (As := [.int v4, .int x3]) (cMd_put l G v4 x3 M2) zc_X10_put zk10 rfl ly_0 tw_1248 (by decide) (Nat.le_of_ble_eq_true rfl) dX10_goFrom_105 (fun _ M4 => ?_)
  skip
  refine v_iconst (pc := 108) 0 dX10_goFrom_108 (by decide) ?_
  refine v_istore (pc := 109) dX10_goFrom_109 (by decide) ?_
  exact v_sub (wMd_goFrom_111 l G k41 hk41 FU v1 v2 v3 v4 0 M4) rfl
theorem wMd_goFrom_41 (l : Launch) (G : zG) : ∀ (fuel : Nat) (v1 : Int32) (v2 : Int32) (v3 : Int32) (M : zM), zV eV l G zLY zRY 2 yX10_goFrom cX10_goFrom 7 none 41 [(0, .ref 0), (1, .int v1), (2, .int v2), (3, .int v3)] [] M (fMd_goFrom_41 fuel v1 v2 v3 M) := by
  intro fuel
  induction fuel with
  | zero => intro v1 v2 v3 M; exact v_none
  | succ fuel ih =>
    intro v1 v2 v3 M
    rw [fMd_goFrom_41]
    refine v_iload_n (pc := 41) dX10_goFrom_41 rfl ?_
    refine v_iload_n (pc := 42) dX10_goFrom_42 rfl ?_
    refine v_icmp_ge (pc := 43) 177 dX10_goFrom_43 (by decide) ?_ ?_
    · exact v_vret (pc := 177) dX10_goFrom_177
    · refine v_aload_n (pc := 46) dX10_goFrom_46 rfl ?_
      refine v_getR (pc := 47) (q := 8) zk10 ly_0 rfl ry_0_8 tw_1034 dX10_goFrom_47 ?_
      refine v_iload_n (pc := 50) dX10_goFrom_50 rfl ?_
      refine v_iald (pc := 51) ly_7 dX10_goFrom_51 (fun x1 => ?_)
      refine v_istore (pc := 52) dX10_goFrom_52 (by decide) ?_
      refine v_iinc (pc := 54) 1 dX10_goFrom_54 rfl (by decide) (by decide) ?_
      refine v_aload_n (pc := 57) dX10_goFrom_57 rfl ?_
      refine v_iload_n (pc := 58) dX10_goFrom_58 rfl ?_
      refine v_iload (pc := 59) dX10_goFrom_59 rfl ?_
      refine v_callV (pc := 61) (As := [.int v1, .int x1]) (cMd_farOf l G v1 x1 M) zc_X10_farOf zk10 rfl ly_0 tw_1260 (by decide) (Nat.le_of_ble_eq_true rfl) dX10_goFrom_61 (fun r3 M2 => ?_)
      refine v_istore (pc := 64) dX10_goFrom_64 (by decide) ?_
      refine v_iload (pc := 66) dX10_goFrom_66 rfl ?_
      refine v_if_lt (pc := 68) 83 dX10_goFrom_68 (by decide) ?_ ?_
      · exact v_sub (wMd_goFrom_83 l G (fMd_goFrom_41 fuel) ih v1 (v2 + 1) v3 x1 M2) rfl
      · refine v_iload (pc := 71) dX10_goFrom_71 rfl ?_
        refine v_aload_n (pc := 73) dX10_goFrom_73 rfl ?_
        refine v_getR (pc := 74) (q := 18) zk10 ly_0 rfl ry_0_18 tw_1044 dX10_goFrom_74 ?_
        refine v_iload (pc := 77) dX10_goFrom_77 rfl ?_
        refine v_iald (pc := 79) ly_15 dX10_goFrom_79 (fun x4 => ?_)
        refine v_icmp_le (pc := 80) 174 dX10_goFrom_80 (by decide) ?_ ?_
        · refine v_goto (pc := 174) 41 dX10_goFrom_174 (by decide) ?_
          exact v_sub (ih v1 (v2 + 1) v3 M2) rfl
        · exact v_sub (wMd_goFrom_83 l G (fMd_goFrom_41 fuel) ih v1 (v2 + 1) v3 x1 M2) rfl
theorem wMd_goFrom_2 (l : Launch) (G : zG) : ∀ (fuel : Nat) (v1 : Int32) (v2 : Int32) (M : zM), zV eV l G zLY zRY 2 yX10_goFrom cX10_goFrom 7 none 2 [(0, .ref 0), (1, .int v1), (2, .int v2)] [] M (fMd_goFrom_2 fuel v1 v2 M) := by
  intro fuel
  induction fuel with
  | zero => intro v1 v2 M; exact v_none
  | succ fuel ih =>
    intro v1 v2 M
    rw [fMd_goFrom_2]
    refine v_iload_n (pc := 2) dX10_goFrom_2 rfl ?_
    refine v_aload_n (pc := 3) dX10_goFrom_3 rfl ?_
    refine v_getI (pc := 4) (q := 0) zk10 ly_0 rfl tw_1026 dX10_goFrom_4 ?_
    refine v_icmp_ge (pc := 7) 23 dX10_goFrom_7 (by decide) ?_ ?_
    · refine v_aload_n (pc := 23) dX10_goFrom_23 rfl ?_
      refine v_getR (pc := 24) (q := 18) zk10 ly_0 rfl ry_0_18 tw_1044 dX10_goFrom_24 ?_
      refine v_iload_n (pc := 27) dX10_goFrom_27 rfl ?_
      refine v_iconst (pc := 28) 0 dX10_goFrom_28 (by decide) ?_
      refine v_iast (pc := 29) ly_15 dX10_goFrom_29 (fun M1 => ?_)
      refine v_aload_n (pc := 30) dX10_goFrom_30 rfl ?_
      refine v_getR (pc := 31) (q := 8) zk10 ly_0 rfl ry_0_8 tw_1034 dX10_goFrom_31 ?_
      refine v_iconst (pc := 34) 0 dX10_goFrom_34 (by decide) ?_
      refine v_iload_n (pc := 35) dX10_goFrom_35 rfl ?_
      refine v_iast (pc := 36) ly_7 dX10_goFrom_36 (fun M2 => ?_)
      refine v_iconst (pc := 37) 0 dX10_goFrom_37 (by decide) ?_
      refine v_istore_n (pc := 38) dX10_goFrom_38 (by decide) ?_
      refine v_iconst (pc := 39) 1 dX10_goFrom_39 (by decide) ?_
      refine v_istore_n (pc := 40) dX10_goFrom_40 (by decide) ?_
      exact v_sub (wMd_goFrom_41 l G FU v1 0 1 M2) rfl
    · refine v_aload_n (pc := 10) dX10_goFrom_10 rfl ?_
      refine v_getR (pc := 11) (q := 18) zk10 ly_0 rfl ry_0_18 tw_1044 dX10_goFrom_11 ?_
      refine v_iload_n (pc := 14) dX10_goFrom_14 rfl ?_
      refine v_iconst (pc := 15) (-1) dX10_goFrom_15 (by decide) ?_
      refine v_iast (pc := 16) ly_15 dX10_goFrom_16 (fun M3 => ?_)
      refine v_iinc (pc := 17) 1 dX10_goFrom_17 rfl (by decide) (by decide) ?_
      refine v_goto (pc := 20) 2 dX10_goFrom_20 (by decide) ?_
      exact v_sub (ih v1 (v2 + 1) M3) rfl
theorem wMd_goFrom (l : Launch) (G : zG) (v1 : Int32) (M : zM) : zV eV l G zLY zRY 2 yX10_goFrom cX10_goFrom 7 none 0 [(0, .ref 0), (1, .int v1)] [] M (fMd_goFrom v1 M) := by
  rw [fMd_goFrom]
  refine v_iconst (pc := 0) 0 dX10_goFrom_0 (by decide) ?_
  refine v_istore_n (pc := 1) dX10_goFrom_1 (by decide) ?_
  exact v_sub (wMd_goFrom_2 l G FU v1 0 M) rfl
theorem cMd_goFrom (l : Launch) (G : zG) (v1 : Int32) (M : zM) : zC eV l G zLY zRY 2 yX10_goFrom cX10_goFrom 7 none [.ref 0, .int v1] M (fMd_goFrom v1 M) := zC.of (by decide) (Nat.le_of_ble_eq_true rfl) (v_sub (wMd_goFrom l G v1 M) rfl)
theorem dX10_findHubs_0 : decode cX10_findHubs 0 = .ok (.aload_n 0, 1) := by decide +kernel
theorem dX10_findHubs_1 : decode cX10_findHubs 1 = .ok (.invokevirtual 150, 3) := by decide +kernel
theorem dX10_findHubs_4 : decode cX10_findHubs 4 = .ok (.iconst 0, 1) := by decide +kernel
theorem dX10_findHubs_5 : decode cX10_findHubs 5 = .ok (.istore_n 1, 1) := by decide +kernel
theorem dX10_findHubs_6 : decode cX10_findHubs 6 = .ok (.iload_n 1, 1) := by decide +kernel
theorem dX10_findHubs_7 : decode cX10_findHubs 7 = .ok (.aload_n 0, 1) := by decide +kernel
theorem dX10_findHubs_8 : decode cX10_findHubs 8 = .ok (.getfield 99, 3) := by decide +kernel
theorem dX10_findHubs_11 : decode cX10_findHubs 11 = .ok (.if_icmp .ge 40, 3) := by decide +kernel
theorem dX10_findHubs_14 : decode cX10_findHubs 14 = .ok (.iconst 0, 1) := by decide +kernel
theorem dX10_findHubs_15 : decode cX10_findHubs 15 = .ok (.istore_n 2, 1) := by decide +kernel
theorem dX10_findHubs_16 : decode cX10_findHubs 16 = .ok (.iload_n 2, 1) := by decide +kernel
theorem dX10_findHubs_17 : decode cX10_findHubs 17 = .ok (.aload_n 0, 1) := by decide +kernel
theorem dX10_findHubs_18 : decode cX10_findHubs 18 = .ok (.getfield 99, 3) := by decide +kernel
theorem dX10_findHubs_21 : decode cX10_findHubs 21 = .ok (.if_icmp .ge 24, 3) := by decide +kernel
theorem dX10_findHubs_24 : decode cX10_findHubs 24 = .ok (.aload_n 0, 1) := by decide +kernel
theorem dX10_findHubs_25 : decode cX10_findHubs 25 = .ok (.getfield 40, 3) := by decide +kernel
theorem dX10_findHubs_28 : decode cX10_findHubs 28 = .ok (.iload_n 2, 1) := by decide +kernel
theorem dX10_findHubs_29 : decode cX10_findHubs 29 = .ok (.iaload, 1) := by decide +kernel
theorem dX10_findHubs_30 : decode cX10_findHubs 30 = .ok (.iload_n 1, 1) := by decide +kernel
theorem dX10_findHubs_31 : decode cX10_findHubs 31 = .ok (.if_icmp .ne 8, 3) := by decide +kernel
theorem dX10_findHubs_34 : decode cX10_findHubs 34 = .ok (.aload_n 0, 1) := by decide +kernel
theorem dX10_findHubs_35 : decode cX10_findHubs 35 = .ok (.iload_n 2, 1) := by decide +kernel
theorem dX10_findHubs_36 : decode cX10_findHubs 36 = .ok (.invokevirtual 153, 3) := by decide +kernel
theorem dX10_findHubs_39 : decode cX10_findHubs 39 = .ok (.iinc 2 1, 3) := by decide +kernel
theorem dX10_findHubs_42 : decode cX10_findHubs 42 = .ok (.goto (-26), 3) := by decide +kernel
theorem dX10_findHubs_45 : decode cX10_findHubs 45 = .ok (.iinc 1 1, 3) := by decide +kernel
theorem dX10_findHubs_48 : decode cX10_findHubs 48 = .ok (.goto (-42), 3) := by decide +kernel
theorem dX10_findHubs_51 : decode cX10_findHubs 51 = .ok (.return_, 1) := by decide +kernel
theorem wMd_findHubs_16 (l : Launch) (G : zG) (k6 : Int32 → zM → Option (Unit × zM)) (hk6 : ∀ (v1 : Int32) (M : zM), zV eV l G zLY zRY 4 yX10_findHubs cX10_findHubs 3 none 6 [(0, .ref 0), (1, .int v1)] [] M (k6 v1 M)) : ∀ (fuel : Nat) (v1 : Int32) (v2 : Int32) (M : zM), zV eV l G zLY zRY 4 yX10_findHubs cX10_findHubs 3 none 16 [(0, .ref 0), (1, .int v1), (2, .int v2)] [] M (fMd_findHubs_16 k6 fuel v1 v2 M) := by
  intro fuel
  induction fuel with
  | zero => intro v1 v2 M; exact v_none
  | succ fuel ih =>
    intro v1 v2 M
    rw [fMd_findHubs_16]
    refine v_iload_n (pc := 16) dX10_findHubs_16 rfl ?_
    refine v_aload_n (pc := 17) dX10_findHubs_17 rfl ?_
    refine v_getI (pc := 18) (q := 0) zk10 ly_0 rfl tw_1026 dX10_findHubs_18 ?_
    refine v_icmp_ge (pc := 21) 45 dX10_findHubs_21 (by decide) ?_ ?_
    · refine v_iinc (pc := 45) 1 dX10_findHubs_45 rfl (by decide) (by decide) ?_
      refine v_goto (pc := 48) 6 dX10_findHubs_48 (by decide) ?_
      exact v_sub (hk6 (v1 + 1) M) rfl
    · refine v_aload_n (pc := 24) dX10_findHubs_24 rfl ?_
      refine v_getR (pc := 25) (q := 14) zk10 ly_0 rfl ry_0_14 tw_1040 dX10_findHubs_25 ?_
      refine v_iload_n (pc := 28) dX10_findHubs_28 rfl ?_
      refine v_iald (pc := 29) ly_11 dX10_findHubs_29 (fun x1 => ?_)
      refine v_iload_n (pc := 30) dX10_findHubs_30 rfl ?_
      refine v_icmp_ne (pc := 31) 39 dX10_findHubs_31 (by decide) ?_ ?_
      · refine v_iinc (pc := 39) 1 dX10_findHubs_39 rfl (by decide) (by decide) ?_
        refine v_goto (pc := 42) 16 dX10_findHubs_42 (by decide) ?_
        exact v_sub (ih v1 (v2 + 1) M) rfl
      · refine v_aload_n (pc := 34) dX10_findHubs_34 rfl ?_
        refine v_iload_n (pc := 35) dX10_findHubs_35 rfl ?_
        refine v_callV (pc := 36) (As := [.int v2]) (cMd_goFrom l G v2 M) zc_X10_goFrom zk10 rfl ly_0 tw_1256 (by decide) (Nat.le_of_ble_eq_true rfl) dX10_findHubs_36 (fun _ M2 => ?_)
        skip
        refine v_iinc (pc := 39) 1 dX10_findHubs_39 rfl (by decide) (by decide) ?_
        refine v_goto (pc := 42) 16 dX10_findHubs_42 (by decide) ?_
        exact v_sub (ih v1 (v2 + 1) M2) rfl
theorem wMd_findHubs_6 (l : Launch) (G : zG) : ∀ (fuel : Nat) (v1 : Int32) (M : zM), zV eV l G zLY zRY 4 yX10_findHubs cX10_findHubs 3 none 6 [(0, .ref 0), (1, .int v1)] [] M (fMd_findHubs_6 fuel v1 M) := by
  intro fuel
  induction fuel with
  | zero => intro v1 M; exact v_none
  | succ fuel ih =>
    intro v1 M
    rw [fMd_findHubs_6]
    refine v_iload_n (pc := 6) dX10_findHubs_6 rfl ?_
    refine v_aload_n (pc := 7) dX10_findHubs_7 rfl ?_
    refine v_getI (pc := 8) (q := 0) zk10 ly_0 rfl tw_1026 dX10_findHubs_8 ?_
    refine v_icmp_ge (pc := 11) 51 dX10_findHubs_11 (by decide) ?_ ?_
    · exact v_vret (pc := 51) dX10_findHubs_51
    · refine v_iconst (pc := 14) 0 dX10_findHubs_14 (by decide) ?_
      refine v_istore_n (pc := 15) dX10_findHubs_15 (by decide) ?_
      exact v_sub (wMd_findHubs_16 l G (fMd_findHubs_6 fuel) ih FU v1 0 M) rfl
theorem wMd_findHubs (l : Launch) (G : zG)  (M : zM) : zV eV l G zLY zRY 4 yX10_findHubs cX10_findHubs 3 none 0 [(0, .ref 0)] [] M (fMd_findHubs  M) := by
  rw [fMd_findHubs]
  refine v_aload_n (pc := 0) dX10_findHubs_0 rfl ?_
  refine v_callV (pc := 1) (As := []) (cMd_findRanks l G  M) zc_X10_findRanks zk10 rfl ly_0 tw_1207 (by decide) (Nat.le_of_ble_eq_true rfl) dX10_findHubs_1 (fun _ M1 => ?_)
  skip
  refine v_iconst (pc := 4) 0 dX10_findHubs_4 (by decide) ?_
  refine v_istore_n (pc := 5) dX10_findHubs_5 (by decide) ?_
  exact v_sub (wMd_findHubs_6 l G FU 0 M1) rfl
theorem cMd_findHubs (l : Launch) (G : zG)  (M : zM) : zC eV l G zLY zRY 4 yX10_findHubs cX10_findHubs 3 none [.ref 0] M (fMd_findHubs  M) := zC.of (by decide) (Nat.le_of_ble_eq_true rfl) (v_sub (wMd_findHubs l G  M) rfl)
theorem dX10_findRows_0 : decode cX10_findRows 0 = .ok (.aload_n 0, 1) := by decide +kernel
theorem dX10_findRows_1 : decode cX10_findRows 1 = .ok (.invokevirtual 156, 3) := by decide +kernel
theorem dX10_findRows_4 : decode cX10_findRows 4 = .ok (.iconst 0, 1) := by decide +kernel
theorem dX10_findRows_5 : decode cX10_findRows 5 = .ok (.istore_n 1, 1) := by decide +kernel
theorem dX10_findRows_6 : decode cX10_findRows 6 = .ok (.iload_n 1, 1) := by decide +kernel
theorem dX10_findRows_7 : decode cX10_findRows 7 = .ok (.aload_n 0, 1) := by decide +kernel
theorem dX10_findRows_8 : decode cX10_findRows 8 = .ok (.getfield 99, 3) := by decide +kernel
theorem dX10_findRows_11 : decode cX10_findRows 11 = .ok (.if_icmp .ge 84, 3) := by decide +kernel
theorem dX10_findRows_14 : decode cX10_findRows 14 = .ok (.aload_n 0, 1) := by decide +kernel
theorem dX10_findRows_15 : decode cX10_findRows 15 = .ok (.iload_n 1, 1) := by decide +kernel
theorem dX10_findRows_16 : decode cX10_findRows 16 = .ok (.aload_n 0, 1) := by decide +kernel
theorem dX10_findRows_17 : decode cX10_findRows 17 = .ok (.getfield 37, 3) := by decide +kernel
theorem dX10_findRows_20 : decode cX10_findRows 20 = .ok (.iload_n 1, 1) := by decide +kernel
theorem dX10_findRows_21 : decode cX10_findRows 21 = .ok (.iaload, 1) := by decide +kernel
theorem dX10_findRows_22 : decode cX10_findRows 22 = .ok (.invokevirtual 146, 3) := by decide +kernel
theorem dX10_findRows_25 : decode cX10_findRows 25 = .ok (.aload_n 0, 1) := by decide +kernel
theorem dX10_findRows_26 : decode cX10_findRows 26 = .ok (.getfield 37, 3) := by decide +kernel
theorem dX10_findRows_29 : decode cX10_findRows 29 = .ok (.iload_n 1, 1) := by decide +kernel
theorem dX10_findRows_30 : decode cX10_findRows 30 = .ok (.iaload, 1) := by decide +kernel
theorem dX10_findRows_31 : decode cX10_findRows 31 = .ok (.iconst 1, 1) := by decide +kernel
theorem dX10_findRows_32 : decode cX10_findRows 32 = .ok (.iadd, 1) := by decide +kernel
theorem dX10_findRows_33 : decode cX10_findRows 33 = .ok (.istore_n 2, 1) := by decide +kernel
theorem dX10_findRows_34 : decode cX10_findRows 34 = .ok (.iload_n 2, 1) := by decide +kernel
theorem dX10_findRows_35 : decode cX10_findRows 35 = .ok (.aload_n 0, 1) := by decide +kernel
theorem dX10_findRows_36 : decode cX10_findRows 36 = .ok (.getfield 99, 3) := by decide +kernel
theorem dX10_findRows_39 : decode cX10_findRows 39 = .ok (.if_icmp .ge 50, 3) := by decide +kernel
theorem dX10_findRows_42 : decode cX10_findRows 42 = .ok (.iconst 0, 1) := by decide +kernel
theorem dX10_findRows_43 : decode cX10_findRows 43 = .ok (.istore_n 3, 1) := by decide +kernel
theorem dX10_findRows_44 : decode cX10_findRows 44 = .ok (.iload_n 3, 1) := by decide +kernel
theorem dX10_findRows_45 : decode cX10_findRows 45 = .ok (.aload_n 0, 1) := by decide +kernel
theorem dX10_findRows_46 : decode cX10_findRows 46 = .ok (.getfield 99, 3) := by decide +kernel
theorem dX10_findRows_49 : decode cX10_findRows 49 = .ok (.if_icmp .ge 34, 3) := by decide +kernel
theorem dX10_findRows_52 : decode cX10_findRows 52 = .ok (.aload_n 0, 1) := by decide +kernel
theorem dX10_findRows_53 : decode cX10_findRows 53 = .ok (.getfield 37, 3) := by decide +kernel
theorem dX10_findRows_56 : decode cX10_findRows 56 = .ok (.iload_n 3, 1) := by decide +kernel
theorem dX10_findRows_57 : decode cX10_findRows 57 = .ok (.iaload, 1) := by decide +kernel
theorem dX10_findRows_58 : decode cX10_findRows 58 = .ok (.iload_n 2, 1) := by decide +kernel
theorem dX10_findRows_59 : decode cX10_findRows 59 = .ok (.if_icmp .ne 18, 3) := by decide +kernel
theorem dX10_findRows_62 : decode cX10_findRows 62 = .ok (.aload_n 0, 1) := by decide +kernel
theorem dX10_findRows_63 : decode cX10_findRows 63 = .ok (.iload_n 1, 1) := by decide +kernel
theorem dX10_findRows_64 : decode cX10_findRows 64 = .ok (.iload_n 3, 1) := by decide +kernel
theorem dX10_findRows_65 : decode cX10_findRows 65 = .ok (.invokevirtual 119, 3) := by decide +kernel
theorem dX10_findRows_68 : decode cX10_findRows 68 = .ok (.ifCond .lt 9, 3) := by decide +kernel
theorem dX10_findRows_71 : decode cX10_findRows 71 = .ok (.aload_n 0, 1) := by decide +kernel
theorem dX10_findRows_72 : decode cX10_findRows 72 = .ok (.iload_n 1, 1) := by decide +kernel
theorem dX10_findRows_73 : decode cX10_findRows 73 = .ok (.iload_n 2, 1) := by decide +kernel
theorem dX10_findRows_74 : decode cX10_findRows 74 = .ok (.invokevirtual 146, 3) := by decide +kernel
theorem dX10_findRows_77 : decode cX10_findRows 77 = .ok (.iinc 3 1, 3) := by decide +kernel
theorem dX10_findRows_80 : decode cX10_findRows 80 = .ok (.goto (-36), 3) := by decide +kernel
theorem dX10_findRows_83 : decode cX10_findRows 83 = .ok (.iinc 2 1, 3) := by decide +kernel
theorem dX10_findRows_86 : decode cX10_findRows 86 = .ok (.goto (-52), 3) := by decide +kernel
theorem dX10_findRows_89 : decode cX10_findRows 89 = .ok (.iinc 1 1, 3) := by decide +kernel
theorem dX10_findRows_92 : decode cX10_findRows 92 = .ok (.goto (-86), 3) := by decide +kernel
theorem dX10_findRows_95 : decode cX10_findRows 95 = .ok (.return_, 1) := by decide +kernel
theorem wMd_findRows_44 (l : Launch) (G : zG) (k34 : Int32 → Int32 → zM → Option (Unit × zM)) (hk34 : ∀ (v1 : Int32) (v2 : Int32) (M : zM), zV eV l G zLY zRY 3 yX10_findRows cX10_findRows 4 none 34 [(0, .ref 0), (1, .int v1), (2, .int v2)] [] M (k34 v1 v2 M)) : ∀ (fuel : Nat) (v1 : Int32) (v2 : Int32) (v3 : Int32) (M : zM), zV eV l G zLY zRY 3 yX10_findRows cX10_findRows 4 none 44 [(0, .ref 0), (1, .int v1), (2, .int v2), (3, .int v3)] [] M (fMd_findRows_44 k34 fuel v1 v2 v3 M) := by
  intro fuel
  induction fuel with
  | zero => intro v1 v2 v3 M; exact v_none
  | succ fuel ih =>
    intro v1 v2 v3 M
    rw [fMd_findRows_44]
    refine v_iload_n (pc := 44) dX10_findRows_44 rfl ?_
    refine v_aload_n (pc := 45) dX10_findRows_45 rfl ?_
    refine v_getI (pc := 46) (q := 0) zk10 ly_0 rfl tw_1026 dX10_findRows_46 ?_
    refine v_icmp_ge (pc := 49) 83 dX10_findRows_49 (by decide) ?_ ?_
    · refine v_iinc (pc := 83) 1 dX10_findRows_83 rfl (by decide) (by decide) ?_
      refine v_goto (pc := 86) 34 dX10_findRows_86 (by decide) ?_
      exact v_sub (hk34 v1 (v2 + 1) M) rfl
    · refine v_aload_n (pc := 52) dX10_findRows_52 rfl ?_
      refine v_getR (pc := 53) (q := 13) zk10 ly_0 rfl ry_0_13 tw_1039 dX10_findRows_53 ?_
      refine v_iload_n (pc := 56) dX10_findRows_56 rfl ?_
      refine v_iald (pc := 57) ly_10 dX10_findRows_57 (fun x1 => ?_)
      refine v_iload_n (pc := 58) dX10_findRows_58 rfl ?_
      refine v_icmp_ne (pc := 59) 77 dX10_findRows_59 (by decide) ?_ ?_
      · refine v_iinc (pc := 77) 1 dX10_findRows_77 rfl (by decide) (by decide) ?_
        refine v_goto (pc := 80) 44 dX10_findRows_80 (by decide) ?_
        exact v_sub (ih v1 v2 (v3 + 1) M) rfl
      · refine v_aload_n (pc := 62) dX10_findRows_62 rfl ?_
        refine v_iload_n (pc := 63) dX10_findRows_63 rfl ?_
        refine v_iload_n (pc := 64) dX10_findRows_64 rfl ?_
        refine v_callV (pc := 65) (As := [.int v1, .int v3]) (cMd_lineOf l G v1 v3 M) zc_X10_lineOf zk10 rfl ly_0 tw_1168 (by decide) (Nat.le_of_ble_eq_true rfl) dX10_findRows_65 (fun r3 M2 => ?_)
        refine v_if_lt (pc := 68) 77 dX10_findRows_68 (by decide) ?_ ?_
        · refine v_iinc (pc := 77) 1 dX10_findRows_77 rfl (by decide) (by decide) ?_
          refine v_goto (pc := 80) 44 dX10_findRows_80 (by decide) ?_
          exact v_sub (ih v1 v2 (v3 + 1) M2) rfl
        · refine v_aload_n (pc := 71) dX10_findRows_71 rfl ?_
          refine v_iload_n (pc := 72) dX10_findRows_72 rfl ?_
          refine v_iload_n (pc := 73) dX10_findRows_73 rfl ?_
          refine v_callV (pc := 74) (As := [.int v1, .int v2]) (cMd_put l G v1 v2 M2) zc_X10_put zk10 rfl ly_0 tw_1248 (by decide) (Nat.le_of_ble_eq_true rfl) dX10_findRows_74 (fun _ M4 => ?_)
          skip
          refine v_iinc (pc := 77) 1 dX10_findRows_77 rfl (by decide) (by decide) ?_
          refine v_goto (pc := 80) 44 dX10_findRows_80 (by decide) ?_
          exact v_sub (ih v1 v2 (v3 + 1) M4) rfl
theorem wMd_findRows_34 (l : Launch) (G : zG) (k6 : Int32 → zM → Option (Unit × zM)) (hk6 : ∀ (v1 : Int32) (M : zM), zV eV l G zLY zRY 3 yX10_findRows cX10_findRows 4 none 6 [(0, .ref 0), (1, .int v1)] [] M (k6 v1 M)) : ∀ (fuel : Nat) (v1 : Int32) (v2 : Int32) (M : zM), zV eV l G zLY zRY 3 yX10_findRows cX10_findRows 4 none 34 [(0, .ref 0), (1, .int v1), (2, .int v2)] [] M (fMd_findRows_34 k6 fuel v1 v2 M) := by
  intro fuel
  induction fuel with
  | zero => intro v1 v2 M; exact v_none
  | succ fuel ih =>
    intro v1 v2 M
    rw [fMd_findRows_34]
    refine v_iload_n (pc := 34) dX10_findRows_34 rfl ?_
    refine v_aload_n (pc := 35) dX10_findRows_35 rfl ?_
    refine v_getI (pc := 36) (q := 0) zk10 ly_0 rfl tw_1026 dX10_findRows_36 ?_
    refine v_icmp_ge (pc := 39) 89 dX10_findRows_39 (by decide) ?_ ?_
    · refine v_iinc (pc := 89) 1 dX10_findRows_89 rfl (by decide) (by decide) ?_
      refine v_goto (pc := 92) 6 dX10_findRows_92 (by decide) ?_
      exact v_sub (hk6 (v1 + 1) M) rfl
    · refine v_iconst (pc := 42) 0 dX10_findRows_42 (by decide) ?_
      refine v_istore_n (pc := 43) dX10_findRows_43 (by decide) ?_
      exact v_sub (wMd_findRows_44 l G (fMd_findRows_34 k6 fuel) ih FU v1 v2 0 M) rfl
theorem wMd_findRows_6 (l : Launch) (G : zG) : ∀ (fuel : Nat) (v1 : Int32) (M : zM), zV eV l G zLY zRY 3 yX10_findRows cX10_findRows 4 none 6 [(0, .ref 0), (1, .int v1)] [] M (fMd_findRows_6 fuel v1 M) := by
  intro fuel
  induction fuel with
  | zero => intro v1 M; exact v_none
  | succ fuel ih =>
    intro v1 M
    rw [fMd_findRows_6]
    refine v_iload_n (pc := 6) dX10_findRows_6 rfl ?_
    refine v_aload_n (pc := 7) dX10_findRows_7 rfl ?_
    refine v_getI (pc := 8) (q := 0) zk10 ly_0 rfl tw_1026 dX10_findRows_8 ?_
    refine v_icmp_ge (pc := 11) 95 dX10_findRows_11 (by decide) ?_ ?_
    · exact v_vret (pc := 95) dX10_findRows_95
    · refine v_aload_n (pc := 14) dX10_findRows_14 rfl ?_
      refine v_iload_n (pc := 15) dX10_findRows_15 rfl ?_
      refine v_aload_n (pc := 16) dX10_findRows_16 rfl ?_
      refine v_getR (pc := 17) (q := 13) zk10 ly_0 rfl ry_0_13 tw_1039 dX10_findRows_17 ?_
      refine v_iload_n (pc := 20) dX10_findRows_20 rfl ?_
      refine v_iald (pc := 21) ly_10 dX10_findRows_21 (fun x1 => ?_)
      refine v_callV (pc := 22) (As := [.int v1, .int x1]) (cMd_put l G v1 x1 M) zc_X10_put zk10 rfl ly_0 tw_1248 (by decide) (Nat.le_of_ble_eq_true rfl) dX10_findRows_22 (fun _ M2 => ?_)
      skip
      refine v_aload_n (pc := 25) dX10_findRows_25 rfl ?_
      refine v_getR (pc := 26) (q := 13) zk10 ly_0 rfl ry_0_13 tw_1039 dX10_findRows_26 ?_
      refine v_iload_n (pc := 29) dX10_findRows_29 rfl ?_
      refine v_iald (pc := 30) ly_10 dX10_findRows_30 (fun x3 => ?_)
      refine v_iconst (pc := 31) 1 dX10_findRows_31 (by decide) ?_
      refine v_iadd (pc := 32) dX10_findRows_32 ?_
      refine v_istore_nL (pc := 33) dX10_findRows_33 (by decide) (fun u2_33 => ?_)
      exact v_sub (wMd_findRows_34 l G (fMd_findRows_6 fuel) ih FU v1 u2_33 M2) rfl
theorem wMd_findRows (l : Launch) (G : zG)  (M : zM) : zV eV l G zLY zRY 3 yX10_findRows cX10_findRows 4 none 0 [(0, .ref 0)] [] M (fMd_findRows  M) := by
  rw [fMd_findRows]
  refine v_aload_n (pc := 0) dX10_findRows_0 rfl ?_
  refine v_callV (pc := 1) (As := []) (cMd_findTurns l G  M) zc_X10_findTurns zk10 rfl ly_0 tw_1203 (by decide) (Nat.le_of_ble_eq_true rfl) dX10_findRows_1 (fun _ M1 => ?_)
  skip
  refine v_iconst (pc := 4) 0 dX10_findRows_4 (by decide) ?_
  refine v_istore_n (pc := 5) dX10_findRows_5 (by decide) ?_
  exact v_sub (wMd_findRows_6 l G FU 0 M1) rfl
theorem cMd_findRows (l : Launch) (G : zG)  (M : zM) : zC eV l G zLY zRY 3 yX10_findRows cX10_findRows 4 none [.ref 0] M (fMd_findRows  M) := zC.of (by decide) (Nat.le_of_ble_eq_true rfl) (v_sub (wMd_findRows l G  M) rfl)
theorem dX10_findNames_0 : decode cX10_findNames 0 = .ok (.aload_n 0, 1) := by decide +kernel
theorem dX10_findNames_1 : decode cX10_findNames 1 = .ok (.invokevirtual 159, 3) := by decide +kernel
theorem dX10_findNames_4 : decode cX10_findNames 4 = .ok (.iconst 0, 1) := by decide +kernel
theorem dX10_findNames_5 : decode cX10_findNames 5 = .ok (.istore_n 2, 1) := by decide +kernel
theorem dX10_findNames_6 : decode cX10_findNames 6 = .ok (.iload_n 2, 1) := by decide +kernel
theorem dX10_findNames_7 : decode cX10_findNames 7 = .ok (.bipush 12, 2) := by decide +kernel
theorem dX10_findNames_9 : decode cX10_findNames 9 = .ok (.if_icmp .ge 16, 3) := by decide +kernel
theorem dX10_findNames_12 : decode cX10_findNames 12 = .ok (.aload_n 0, 1) := by decide +kernel
theorem dX10_findNames_13 : decode cX10_findNames 13 = .ok (.getfield 43, 3) := by decide +kernel
theorem dX10_findNames_16 : decode cX10_findNames 16 = .ok (.iload_n 2, 1) := by decide +kernel
theorem dX10_findNames_17 : decode cX10_findNames 17 = .ok (.iconst 0, 1) := by decide +kernel
theorem dX10_findNames_18 : decode cX10_findNames 18 = .ok (.iastore, 1) := by decide +kernel
theorem dX10_findNames_19 : decode cX10_findNames 19 = .ok (.iinc 2 1, 3) := by decide +kernel
theorem dX10_findNames_22 : decode cX10_findNames 22 = .ok (.goto (-16), 3) := by decide +kernel
theorem dX10_findNames_25 : decode cX10_findNames 25 = .ok (.iload_n 1, 1) := by decide +kernel
theorem dX10_findNames_26 : decode cX10_findNames 26 = .ok (.ifCond .ne 10, 3) := by decide +kernel
theorem dX10_findNames_29 : decode cX10_findNames 29 = .ok (.aload_n 0, 1) := by decide +kernel
theorem dX10_findNames_30 : decode cX10_findNames 30 = .ok (.invokevirtual 162, 3) := by decide +kernel
theorem dX10_findNames_33 : decode cX10_findNames 33 = .ok (.goto 24, 3) := by decide +kernel
theorem dX10_findNames_36 : decode cX10_findNames 36 = .ok (.iload_n 1, 1) := by decide +kernel
theorem dX10_findNames_37 : decode cX10_findNames 37 = .ok (.iconst 1, 1) := by decide +kernel
theorem dX10_findNames_38 : decode cX10_findNames 38 = .ok (.if_icmp .ne 10, 3) := by decide +kernel
theorem dX10_findNames_41 : decode cX10_findNames 41 = .ok (.aload_n 0, 1) := by decide +kernel
theorem dX10_findNames_42 : decode cX10_findNames 42 = .ok (.invokevirtual 165, 3) := by decide +kernel
theorem dX10_findNames_45 : decode cX10_findNames 45 = .ok (.goto 12, 3) := by decide +kernel
theorem dX10_findNames_48 : decode cX10_findNames 48 = .ok (.iload_n 1, 1) := by decide +kernel
theorem dX10_findNames_49 : decode cX10_findNames 49 = .ok (.iconst 2, 1) := by decide +kernel
theorem dX10_findNames_50 : decode cX10_findNames 50 = .ok (.if_icmp .ne 7, 3) := by decide +kernel
theorem dX10_findNames_53 : decode cX10_findNames 53 = .ok (.aload_n 0, 1) := by decide +kernel
theorem dX10_findNames_54 : decode cX10_findNames 54 = .ok (.invokevirtual 168, 3) := by decide +kernel
theorem dX10_findNames_57 : decode cX10_findNames 57 = .ok (.iconst 0, 1) := by decide +kernel
theorem dX10_findNames_58 : decode cX10_findNames 58 = .ok (.istore_n 2, 1) := by decide +kernel
theorem dX10_findNames_59 : decode cX10_findNames 59 = .ok (.iload_n 2, 1) := by decide +kernel
theorem dX10_findNames_60 : decode cX10_findNames 60 = .ok (.aload_n 0, 1) := by decide +kernel
theorem dX10_findNames_61 : decode cX10_findNames 61 = .ok (.getfield 99, 3) := by decide +kernel
theorem dX10_findNames_64 : decode cX10_findNames 64 = .ok (.if_icmp .ge 35, 3) := by decide +kernel
theorem dX10_findNames_67 : decode cX10_findNames 67 = .ok (.iload_n 1, 1) := by decide +kernel
theorem dX10_findNames_68 : decode cX10_findNames 68 = .ok (.ifCond .ne 31, 3) := by decide +kernel
theorem dX10_findNames_71 : decode cX10_findNames 71 = .ok (.aload_n 0, 1) := by decide +kernel
theorem dX10_findNames_72 : decode cX10_findNames 72 = .ok (.iload_n 2, 1) := by decide +kernel
theorem dX10_findNames_73 : decode cX10_findNames 73 = .ok (.aload_n 0, 1) := by decide +kernel
theorem dX10_findNames_74 : decode cX10_findNames 74 = .ok (.getfield 31, 3) := by decide +kernel
theorem dX10_findNames_77 : decode cX10_findNames 77 = .ok (.iload_n 2, 1) := by decide +kernel
theorem dX10_findNames_78 : decode cX10_findNames 78 = .ok (.iaload, 1) := by decide +kernel
theorem dX10_findNames_79 : decode cX10_findNames 79 = .ok (.invokevirtual 146, 3) := by decide +kernel
theorem dX10_findNames_82 : decode cX10_findNames 82 = .ok (.aload_n 0, 1) := by decide +kernel
theorem dX10_findNames_83 : decode cX10_findNames 83 = .ok (.iload_n 2, 1) := by decide +kernel
theorem dX10_findNames_84 : decode cX10_findNames 84 = .ok (.aload_n 0, 1) := by decide +kernel
theorem dX10_findNames_85 : decode cX10_findNames 85 = .ok (.getfield 34, 3) := by decide +kernel
theorem dX10_findNames_88 : decode cX10_findNames 88 = .ok (.iload_n 2, 1) := by decide +kernel
theorem dX10_findNames_89 : decode cX10_findNames 89 = .ok (.iaload, 1) := by decide +kernel
theorem dX10_findNames_90 : decode cX10_findNames 90 = .ok (.invokevirtual 146, 3) := by decide +kernel
theorem dX10_findNames_93 : decode cX10_findNames 93 = .ok (.iinc 2 1, 3) := by decide +kernel
theorem dX10_findNames_96 : decode cX10_findNames 96 = .ok (.goto (-37), 3) := by decide +kernel
theorem dX10_findNames_99 : decode cX10_findNames 99 = .ok (.iconst 0, 1) := by decide +kernel
theorem dX10_findNames_100 : decode cX10_findNames 100 = .ok (.istore_n 2, 1) := by decide +kernel
theorem dX10_findNames_101 : decode cX10_findNames 101 = .ok (.iload_n 2, 1) := by decide +kernel
theorem dX10_findNames_102 : decode cX10_findNames 102 = .ok (.aload_n 0, 1) := by decide +kernel
theorem dX10_findNames_103 : decode cX10_findNames 103 = .ok (.getfield 99, 3) := by decide +kernel
theorem dX10_findNames_106 : decode cX10_findNames 106 = .ok (.if_icmp .ge 24, 3) := by decide +kernel
theorem dX10_findNames_109 : decode cX10_findNames 109 = .ok (.iload_n 1, 1) := by decide +kernel
theorem dX10_findNames_110 : decode cX10_findNames 110 = .ok (.iconst 3, 1) := by decide +kernel
theorem dX10_findNames_111 : decode cX10_findNames 111 = .ok (.if_icmp .ne 19, 3) := by decide +kernel
theorem dX10_findNames_114 : decode cX10_findNames 114 = .ok (.aload_n 0, 1) := by decide +kernel
theorem dX10_findNames_115 : decode cX10_findNames 115 = .ok (.iload_n 2, 1) := by decide +kernel
theorem dX10_findNames_116 : decode cX10_findNames 116 = .ok (.aload_n 0, 1) := by decide +kernel
theorem dX10_findNames_117 : decode cX10_findNames 117 = .ok (.iload_n 2, 1) := by decide +kernel
theorem dX10_findNames_118 : decode cX10_findNames 118 = .ok (.invokevirtual 171, 3) := by decide +kernel
theorem dX10_findNames_121 : decode cX10_findNames 121 = .ok (.invokevirtual 146, 3) := by decide +kernel
theorem dX10_findNames_124 : decode cX10_findNames 124 = .ok (.iinc 2 1, 3) := by decide +kernel
theorem dX10_findNames_127 : decode cX10_findNames 127 = .ok (.goto (-26), 3) := by decide +kernel
theorem dX10_findNames_130 : decode cX10_findNames 130 = .ok (.return_, 1) := by decide +kernel
theorem wMd_findNames_101 (l : Launch) (G : zG) : ∀ (fuel : Nat) (v1 : Int32) (v2 : Int32) (M : zM), zV eV l G zLY zRY 5 yX10_findNames cX10_findNames 3 none 101 [(0, .ref 0), (1, .int v1), (2, .int v2)] [] M (fMd_findNames_101 fuel v1 v2 M) := by
  intro fuel
  induction fuel with
  | zero => intro v1 v2 M; exact v_none
  | succ fuel ih =>
    intro v1 v2 M
    rw [fMd_findNames_101]
    refine v_iload_n (pc := 101) dX10_findNames_101 rfl ?_
    refine v_aload_n (pc := 102) dX10_findNames_102 rfl ?_
    refine v_getI (pc := 103) (q := 0) zk10 ly_0 rfl tw_1026 dX10_findNames_103 ?_
    refine v_icmp_ge (pc := 106) 130 dX10_findNames_106 (by decide) ?_ ?_
    · exact v_vret (pc := 130) dX10_findNames_130
    · refine v_iload_n (pc := 109) dX10_findNames_109 rfl ?_
      refine v_iconst (pc := 110) 3 dX10_findNames_110 (by decide) ?_
      refine v_icmp_ne (pc := 111) 130 dX10_findNames_111 (by decide) ?_ ?_
      · exact v_vret (pc := 130) dX10_findNames_130
      · refine v_aload_n (pc := 114) dX10_findNames_114 rfl ?_
        refine v_iload_n (pc := 115) dX10_findNames_115 rfl ?_
        refine v_aload_n (pc := 116) dX10_findNames_116 rfl ?_
        refine v_iload_n (pc := 117) dX10_findNames_117 rfl ?_
        refine v_callV (pc := 118) (As := [.int v2]) (cMd_wayUp l G v2 M) zc_X10_wayUp zk10 rfl ly_0 tw_1223 (by decide) (Nat.le_of_ble_eq_true rfl) dX10_findNames_118 (fun r2 M1 => ?_)
        refine v_callV (pc := 121) (As := [.int v2, .int r2]) (cMd_put l G v2 r2 M1) zc_X10_put zk10 rfl ly_0 tw_1248 (by decide) (Nat.le_of_ble_eq_true rfl) dX10_findNames_121 (fun _ M3 => ?_)
        skip
        refine v_iinc (pc := 124) 1 dX10_findNames_124 rfl (by decide) (by decide) ?_
        refine v_goto (pc := 127) 101 dX10_findNames_127 (by decide) ?_
        exact v_sub (ih v1 (v2 + 1) M3) rfl
theorem wMd_findNames_59 (l : Launch) (G : zG) : ∀ (fuel : Nat) (v1 : Int32) (v2 : Int32) (M : zM), zV eV l G zLY zRY 5 yX10_findNames cX10_findNames 3 none 59 [(0, .ref 0), (1, .int v1), (2, .int v2)] [] M (fMd_findNames_59 fuel v1 v2 M) := by
  intro fuel
  induction fuel with
  | zero => intro v1 v2 M; exact v_none
  | succ fuel ih =>
    intro v1 v2 M
    rw [fMd_findNames_59]
    refine v_iload_n (pc := 59) dX10_findNames_59 rfl ?_
    refine v_aload_n (pc := 60) dX10_findNames_60 rfl ?_
    refine v_getI (pc := 61) (q := 0) zk10 ly_0 rfl tw_1026 dX10_findNames_61 ?_
    refine v_icmp_ge (pc := 64) 99 dX10_findNames_64 (by decide) ?_ ?_
    · refine v_iconst (pc := 99) 0 dX10_findNames_99 (by decide) ?_
      refine v_istore_n (pc := 100) dX10_findNames_100 (by decide) ?_
      exact v_sub (wMd_findNames_101 l G FU v1 0 M) rfl
    · refine v_iload_n (pc := 67) dX10_findNames_67 rfl ?_
      refine v_if_ne (pc := 68) 99 dX10_findNames_68 (by decide) ?_ ?_
      · refine v_iconst (pc := 99) 0 dX10_findNames_99 (by decide) ?_
        refine v_istore_n (pc := 100) dX10_findNames_100 (by decide) ?_
        exact v_sub (wMd_findNames_101 l G FU v1 0 M) rfl
      · refine v_aload_n (pc := 71) dX10_findNames_71 rfl ?_
        refine v_iload_n (pc := 72) dX10_findNames_72 rfl ?_
        refine v_aload_n (pc := 73) dX10_findNames_73 rfl ?_
        refine v_getR (pc := 74) (q := 11) zk10 ly_0 rfl ry_0_11 tw_1037 dX10_findNames_74 ?_
        refine v_iload_n (pc := 77) dX10_findNames_77 rfl ?_
        refine v_iald (pc := 78) ly_8 dX10_findNames_78 (fun x1 => ?_)
        refine v_callV (pc := 79) (As := [.int v2, .int x1]) (cMd_put l G v2 x1 M) zc_X10_put zk10 rfl ly_0 tw_1248 (by decide) (Nat.le_of_ble_eq_true rfl) dX10_findNames_79 (fun _ M2 => ?_)
        skip
        refine v_aload_n (pc := 82) dX10_findNames_82 rfl ?_
        refine v_iload_n (pc := 83) dX10_findNames_83 rfl ?_
        refine v_aload_n (pc := 84) dX10_findNames_84 rfl ?_
        refine v_getR (pc := 85) (q := 12) zk10 ly_0 rfl ry_0_12 tw_1038 dX10_findNames_85 ?_
        refine v_iload_n (pc := 88) dX10_findNames_88 rfl ?_
        refine v_iald (pc := 89) ly_9 dX10_findNames_89 (fun x3 => ?_)
        refine v_callV (pc := 90) (As := [.int v2, .int x3]) (cMd_put l G v2 x3 M2) zc_X10_put zk10 rfl ly_0 tw_1248 (by decide) (Nat.le_of_ble_eq_true rfl) dX10_findNames_90 (fun _ M4 => ?_)
        skip
        refine v_iinc (pc := 93) 1 dX10_findNames_93 rfl (by decide) (by decide) ?_
        refine v_goto (pc := 96) 59 dX10_findNames_96 (by decide) ?_
        exact v_sub (ih v1 (v2 + 1) M4) rfl
theorem wMd_findNames_6 (l : Launch) (G : zG) : ∀ (fuel : Nat) (v1 : Int32) (v2 : Int32) (M : zM), zV eV l G zLY zRY 5 yX10_findNames cX10_findNames 3 none 6 [(0, .ref 0), (1, .int v1), (2, .int v2)] [] M (fMd_findNames_6 fuel v1 v2 M) := by
  intro fuel
  induction fuel with
  | zero => intro v1 v2 M; exact v_none
  | succ fuel ih =>
    intro v1 v2 M
    rw [fMd_findNames_6]
    refine v_iload_n (pc := 6) dX10_findNames_6 rfl ?_
    refine v_bipush (pc := 7) 12 dX10_findNames_7 (by decide) ?_
    refine v_icmp_ge (pc := 9) 25 dX10_findNames_9 (by decide) ?_ ?_
    · refine v_iload_n (pc := 25) dX10_findNames_25 rfl ?_
      refine v_if_ne (pc := 26) 36 dX10_findNames_26 (by decide) ?_ ?_
      · refine v_iload_n (pc := 36) dX10_findNames_36 rfl ?_
        refine v_iconst (pc := 37) 1 dX10_findNames_37 (by decide) ?_
        refine v_icmp_ne (pc := 38) 48 dX10_findNames_38 (by decide) ?_ ?_
        · refine v_iload_n (pc := 48) dX10_findNames_48 rfl ?_
          refine v_iconst (pc := 49) 2 dX10_findNames_49 (by decide) ?_
          refine v_icmp_ne (pc := 50) 57 dX10_findNames_50 (by decide) ?_ ?_
          · refine v_iconst (pc := 57) 0 dX10_findNames_57 (by decide) ?_
            refine v_istore_n (pc := 58) dX10_findNames_58 (by decide) ?_
            exact v_sub (wMd_findNames_59 l G FU v1 0 M) rfl
          · refine v_aload_n (pc := 53) dX10_findNames_53 rfl ?_
            refine v_callV (pc := 54) (As := []) (cMd_findHubs l G  M) zc_X10_findHubs zk10 rfl ly_0 tw_1252 (by decide) (Nat.le_of_ble_eq_true rfl) dX10_findNames_54 (fun _ M1 => ?_)
            skip
            refine v_iconst (pc := 57) 0 dX10_findNames_57 (by decide) ?_
            refine v_istore_n (pc := 58) dX10_findNames_58 (by decide) ?_
            exact v_sub (wMd_findNames_59 l G FU v1 0 M1) rfl
        · refine v_aload_n (pc := 41) dX10_findNames_41 rfl ?_
          refine v_callV (pc := 42) (As := []) (cMd_findRows l G  M) zc_X10_findRows zk10 rfl ly_0 tw_1244 (by decide) (Nat.le_of_ble_eq_true rfl) dX10_findNames_42 (fun _ M2 => ?_)
          skip
          refine v_goto (pc := 45) 57 dX10_findNames_45 (by decide) ?_
          refine v_iconst (pc := 57) 0 dX10_findNames_57 (by decide) ?_
          refine v_istore_n (pc := 58) dX10_findNames_58 (by decide) ?_
          exact v_sub (wMd_findNames_59 l G FU v1 0 M2) rfl
      · refine v_aload_n (pc := 29) dX10_findNames_29 rfl ?_
        refine v_callV (pc := 30) (As := []) (cMd_findSpans l G  M) zc_X10_findSpans zk10 rfl ly_0 tw_1236 (by decide) (Nat.le_of_ble_eq_true rfl) dX10_findNames_30 (fun _ M3 => ?_)
        skip
        refine v_goto (pc := 33) 57 dX10_findNames_33 (by decide) ?_
        refine v_iconst (pc := 57) 0 dX10_findNames_57 (by decide) ?_
        refine v_istore_n (pc := 58) dX10_findNames_58 (by decide) ?_
        exact v_sub (wMd_findNames_59 l G FU v1 0 M3) rfl
    · refine v_aload_n (pc := 12) dX10_findNames_12 rfl ?_
      refine v_getR (pc := 13) (q := 15) zk10 ly_0 rfl ry_0_15 tw_1041 dX10_findNames_13 ?_
      refine v_iload_n (pc := 16) dX10_findNames_16 rfl ?_
      refine v_iconst (pc := 17) 0 dX10_findNames_17 (by decide) ?_
      refine v_iast (pc := 18) ly_12 dX10_findNames_18 (fun M4 => ?_)
      refine v_iinc (pc := 19) 1 dX10_findNames_19 rfl (by decide) (by decide) ?_
      refine v_goto (pc := 22) 6 dX10_findNames_22 (by decide) ?_
      exact v_sub (ih v1 (v2 + 1) M4) rfl
theorem wMd_findNames (l : Launch) (G : zG) (v1 : Int32) (M : zM) : zV eV l G zLY zRY 5 yX10_findNames cX10_findNames 3 none 0 [(0, .ref 0), (1, .int v1)] [] M (fMd_findNames v1 M) := by
  rw [fMd_findNames]
  refine v_aload_n (pc := 0) dX10_findNames_0 rfl ?_
  refine v_callV (pc := 1) (As := []) (cMd_findTree l G  M) zc_X10_findTree zk10 rfl ly_0 tw_1184 (by decide) (Nat.le_of_ble_eq_true rfl) dX10_findNames_1 (fun _ M1 => ?_)
  skip
  refine v_iconst (pc := 4) 0 dX10_findNames_4 (by decide) ?_
  refine v_istore_n (pc := 5) dX10_findNames_5 (by decide) ?_
  exact v_sub (wMd_findNames_6 l G FU v1 0 M1) rfl
theorem cMd_findNames (l : Launch) (G : zG) (v1 : Int32) (M : zM) : zC eV l G zLY zRY 5 yX10_findNames cX10_findNames 3 none [.ref 0, .int v1] M (fMd_findNames v1 M) := zC.of (by decide) (Nat.le_of_ble_eq_true rfl) (v_sub (wMd_findNames l G v1 M) rfl)
