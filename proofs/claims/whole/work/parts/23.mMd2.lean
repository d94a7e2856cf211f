theorem dX10_stale_0 : decode cX10_stale 0 = .ok (.iload_n 1, 1) := by decide +kernel
theorem dX10_stale_1 : decode cX10_stale 1 = .ok (.i2l, 1) := by decide +kernel
theorem dX10_stale_2 : decode cX10_stale 2 = .ok (.lconst 0, 1) := by decide +kernel
theorem dX10_stale_3 : decode cX10_stale 3 = .ok (.ldc2_w 191, 3) := by decide +kernel
theorem dX10_stale_6 : decode cX10_stale 6 = .ok (.invokestatic 102, 3) := by decide +kernel
theorem dX10_stale_9 : decode cX10_stale 9 = .ok (.ifCond .ne 7, 3) := by decide +kernel
theorem dX10_stale_12 : decode cX10_stale 12 = .ok (.sipush (-1002), 3) := by decide +kernel
theorem dX10_stale_15 : decode cX10_stale 15 = .ok (.ireturn, 1) := by decide +kernel
theorem dX10_stale_16 : decode cX10_stale 16 = .ok (.aload_n 0, 1) := by decide +kernel
theorem dX10_stale_17 : decode cX10_stale 17 = .ok (.getfield 58, 3) := by decide +kernel
theorem dX10_stale_20 : decode cX10_stale 20 = .ok (.iload_n 1, 1) := by decide +kernel
theorem dX10_stale_21 : decode cX10_stale 21 = .ok (.baload, 1) := by decide +kernel
theorem dX10_stale_22 : decode cX10_stale 22 = .ok (.ifCond .eq 11, 3) := by decide +kernel
theorem dX10_stale_25 : decode cX10_stale 25 = .ok (.aload_n 0, 1) := by decide +kernel
theorem dX10_stale_26 : decode cX10_stale 26 = .ok (.iload_n 1, 1) := by decide +kernel
theorem dX10_stale_27 : decode cX10_stale 27 = .ok (.invokevirtual 217, 3) := by decide +kernel
theorem dX10_stale_30 : decode cX10_stale 30 = .ok (.goto 6, 3) := by decide +kernel
theorem dX10_stale_33 : decode cX10_stale 33 = .ok (.sipush (-1003), 3) := by decide +kernel
theorem dX10_stale_36 : decode cX10_stale 36 = .ok (.ireturn, 1) := by decide +kernel
theorem wMd_stale (l : Launch) (G : zG) (v1 : Int32) (M : zM) : zV eI l G zLY zRY 7 yX10_stale cX10_stale 2 (some .int) 0 [(0, .ref 0), (1, .int v1)] [] M (fMd_stale v1 M) := by
  rw [fMd_stale]
  refine v_iload_n (pc := 0) dX10_stale_0 rfl ?_
  refine v_i2l (pc := 1) dX10_stale_1 ?_
  refine v_lconst (pc := 2) 0 dX10_stale_2 (by decide) ?_
  refine v_ldc2 (pc := 3) 2 tw_1268 dX10_stale_3 ?_
  refine v_callS (pc := 6) (As := [.long v1.toInt64, .long 0, .long 2]) (cMd_in l G v1.toInt64 0 2 M) zc_X10_in tw_1153 (by decide) (Nat.le_of_ble_eq_true rfl) dX10_stale_6 (fun r2 M1 => ?_)
  refine v_if_ne (pc := 9) 16 dX10_stale_9 (by decide) ?_ ?_
  · refine v_aload_n (pc := 16) dX10_stale_16 rfl ?_
    refine v_getR (pc := 17) (q := 20) zk10 ly_0 rfl ry_0_20 tw_1046 dX10_stale_17 ?_
    refine v_iload_n (pc := 20) dX10_stale_20 rfl ?_
    refine v_zald (pc := 21) ly_17 dX10_stale_21 (fun x3 => ?_)
    refine v_if_eq (pc := 22) 33 dX10_stale_22 (by decide) ?_ ?_
    · refine v_sipush (pc := 33) (-1003) dX10_stale_33 (by decide) ?_
      exact v_iret (pc := 36) dX10_stale_36
    · refine v_aload_n (pc := 25) dX10_stale_25 rfl ?_
      refine v_iload_n (pc := 26) dX10_stale_26 rfl ?_
      refine v_callV (pc := 27) (As := [.int v1]) (cMd_staleSet l G v1 M1) zc_X10_staleSet zk10 rfl ly_0 tw_1296 (by decide) (Nat.le_of_ble_eq_true rfl) dX10_stale_27 (fun r5 M4 => ?_)
      refine v_goto (pc := 30) 36 dX10_stale_30 (by decide) ?_
      exact v_iret (pc := 36) dX10_stale_36
  · refine v_sipush (pc := 12) (-1002) dX10_stale_12 (by decide) ?_
    exact v_iret (pc := 15) dX10_stale_15
theorem cMd_stale (l : Launch) (G : zG) (v1 : Int32) (M : zM) : zC eI l G zLY zRY 7 yX10_stale cX10_stale 2 (some .int) [.ref 0, .int v1] M (fMd_stale v1 M) := zC.of (by decide) (Nat.le_of_ble_eq_true rfl) (v_sub (wMd_stale l G v1 M) rfl)
theorem dX10_damaged_0 : decode cX10_damaged 0 = .ok (.iload_n 1, 1) := by decide +kernel
theorem dX10_damaged_1 : decode cX10_damaged 1 = .ok (.i2l, 1) := by decide +kernel
theorem dX10_damaged_2 : decode cX10_damaged 2 = .ok (.lconst 0, 1) := by decide +kernel
theorem dX10_damaged_3 : decode cX10_damaged 3 = .ok (.ldc2_w 191, 3) := by decide +kernel
theorem dX10_damaged_6 : decode cX10_damaged 6 = .ok (.invokestatic 102, 3) := by decide +kernel
theorem dX10_damaged_9 : decode cX10_damaged 9 = .ok (.ifCond .ne 7, 3) := by decide +kernel
theorem dX10_damaged_12 : decode cX10_damaged 12 = .ok (.sipush (-1002), 3) := by decide +kernel
theorem dX10_damaged_15 : decode cX10_damaged 15 = .ok (.ireturn, 1) := by decide +kernel
theorem dX10_damaged_16 : decode cX10_damaged 16 = .ok (.aload_n 0, 1) := by decide +kernel
theorem dX10_damaged_17 : decode cX10_damaged 17 = .ok (.getfield 58, 3) := by decide +kernel
theorem dX10_damaged_20 : decode cX10_damaged 20 = .ok (.iload_n 1, 1) := by decide +kernel
theorem dX10_damaged_21 : decode cX10_damaged 21 = .ok (.baload, 1) := by decide +kernel
theorem dX10_damaged_22 : decode cX10_damaged 22 = .ok (.ifCond .ne 7, 3) := by decide +kernel
theorem dX10_damaged_25 : decode cX10_damaged 25 = .ok (.sipush (-1003), 3) := by decide +kernel
theorem dX10_damaged_28 : decode cX10_damaged 28 = .ok (.ireturn, 1) := by decide +kernel
theorem dX10_damaged_29 : decode cX10_damaged 29 = .ok (.iconst 0, 1) := by decide +kernel
theorem dX10_damaged_30 : decode cX10_damaged 30 = .ok (.istore_n 2, 1) := by decide +kernel
theorem dX10_damaged_31 : decode cX10_damaged 31 = .ok (.iconst 0, 1) := by decide +kernel
theorem dX10_damaged_32 : decode cX10_damaged 32 = .ok (.istore_n 3, 1) := by decide +kernel
theorem dX10_damaged_33 : decode cX10_damaged 33 = .ok (.iload_n 3, 1) := by decide +kernel
theorem dX10_damaged_34 : decode cX10_damaged 34 = .ok (.aload_n 0, 1) := by decide +kernel
theorem dX10_damaged_35 : decode cX10_damaged 35 = .ok (.getfield 62, 3) := by decide +kernel
theorem dX10_damaged_38 : decode cX10_damaged 38 = .ok (.iload_n 1, 1) := by decide +kernel
theorem dX10_damaged_39 : decode cX10_damaged 39 = .ok (.iaload, 1) := by decide +kernel
theorem dX10_damaged_40 : decode cX10_damaged 40 = .ok (.if_icmp .ge 21, 3) := by decide +kernel
theorem dX10_damaged_43 : decode cX10_damaged 43 = .ok (.iload_n 2, 1) := by decide +kernel
theorem dX10_damaged_44 : decode cX10_damaged 44 = .ok (.aload_n 0, 1) := by decide +kernel
theorem dX10_damaged_45 : decode cX10_damaged 45 = .ok (.iload_n 1, 1) := by decide +kernel
theorem dX10_damaged_46 : decode cX10_damaged 46 = .ok (.iload_n 3, 1) := by decide +kernel
theorem dX10_damaged_47 : decode cX10_damaged 47 = .ok (.invokevirtual 225, 3) := by decide +kernel
theorem dX10_damaged_50 : decode cX10_damaged 50 = .ok (.invokestatic 109, 3) := by decide +kernel
theorem dX10_damaged_53 : decode cX10_damaged 53 = .ok (.iadd, 1) := by decide +kernel
theorem dX10_damaged_54 : decode cX10_damaged 54 = .ok (.istore_n 2, 1) := by decide +kernel
theorem dX10_damaged_55 : decode cX10_damaged 55 = .ok (.iinc 3 1, 3) := by decide +kernel
theorem dX10_damaged_58 : decode cX10_damaged 58 = .ok (.goto (-25), 3) := by decide +kernel
theorem dX10_damaged_61 : decode cX10_damaged 61 = .ok (.iload_n 2, 1) := by decide +kernel
theorem dX10_damaged_62 : decode cX10_damaged 62 = .ok (.ireturn, 1) := by decide +kernel
theorem wMd_damaged_33 (l : Launch) (G : zG) : ∀ (fuel : Nat) (v1 : Int32) (v2 : Int32) (v3 : Int32) (M : zM), zV eI l G zLY zRY 4 yX10_damaged cX10_damaged 4 (some .int) 33 [(0, .ref 0), (1, .int v1), (2, .int v2), (3, .int v3)] [] M (fMd_damaged_33 fuel v1 v2 v3 M) := by
  intro fuel
  induction fuel with
  | zero => intro v1 v2 v3 M; exact v_none
  | succ fuel ih =>
    intro v1 v2 v3 M
    rw [fMd_damaged_33]
    refine v_iload_n (pc := 33) dX10_damaged_33 rfl ?_
    refine v_aload_n (pc := 34) dX10_damaged_34 rfl ?_
    refine v_getR (pc := 35) (q := 21) zk10 ly_0 rfl ry_0_21 tw_1047 dX10_damaged_35 ?_
    refine v_iload_n (pc := 38) dX10_damaged_38 rfl ?_
    refine v_iald (pc := 39) ly_18 dX10_damaged_39 (fun x1 => ?_)
    refine v_icmp_ge (pc := 40) 61 dX10_damaged_40 (by decide) ?_ ?_
    · refine v_iload_n (pc := 61) dX10_damaged_61 rfl ?_
      exact v_iret (pc := 62) dX10_damaged_62
    · refine v_iload_n (pc := 43) dX10_damaged_43 rfl ?_
      refine v_aload_n (pc := 44) dX10_damaged_44 rfl ?_
      refine v_iload_n (pc := 45) dX10_damaged_45 rfl ?_
      refine v_iload_n (pc := 46) dX10_damaged_46 rfl ?_
      refine v_callV (pc := 47) (As := [.int v1, .int v3]) (cMd_isDamaged l G v1 v3 M) zc_X10_isDamaged zk10 rfl ly_0 tw_1329 (by decide) (Nat.le_of_ble_eq_true rfl) dX10_damaged_47 (fun r3 M2 => ?_)
      refine v_callS (pc := 50) (As := [.int r3]) (cMd_bit l G r3 M2) zc_X10_bit tw_1196 (by decide) (Nat.le_of_ble_eq_true rfl) dX10_damaged_50 (fun r5 M4 => ?_)
      refine v_iadd (pc := 53) dX10_damaged_53 ?_
      refine v_istore_nL (pc := 54) dX10_damaged_54 (by decide) (fun u2_54 => ?_)
      refine v_iinc (pc := 55) 1 dX10_damaged_55 rfl (by decide) (by decide) ?_
      refine v_goto (pc := 58) 33 dX10_damaged_58 (by decide) ?_
      exact v_sub (ih v1 u2_54 (v3 + 1) M4) rfl
theorem wMd_damaged (l : Launch) (G : zG) (v1 : Int32) (M : zM) : zV eI l G zLY zRY 4 yX10_damaged cX10_damaged 4 (some .int) 0 [(0, .ref 0), (1, .int v1)] [] M (fMd_damaged v1 M) := by
  rw [fMd_damaged]
  refine v_iload_n (pc := 0) dX10_damaged_0 rfl ?_
  refine v_i2l (pc := 1) dX10_damaged_1 ?_
  refine v_lconst (pc := 2) 0 dX10_damaged_2 (by decide) ?_
  refine v_ldc2 (pc := 3) 2 tw_1268 dX10_damaged_3 ?_
  refine v_callS (pc := 6) (As := [.long v1.toInt64, .long 0, .long 2]) (cMd_in l G v1.toInt64 0 2 M) zc_X10_in tw_1153 (by decide) (Nat.le_of_ble_eq_true rfl) dX10_damaged_6 (fun r2 M1 => ?_)
  refine v_if_ne (pc := 9) 16 dX10_damaged_9 (by decide) ?_ ?_
  · refine v_aload_n (pc := 16) dX10_damaged_16 rfl ?_
    refine v_getR (pc := 17) (q := 20) zk10 ly_0 rfl ry_0_20 tw_1046 dX10_damaged_17 ?_
    refine v_iload_n (pc := 20) dX10_damaged_20 rfl ?_
    refine v_zald (pc := 21) ly_17 dX10_damaged_21 (fun x3 => ?_)
    refine v_if_ne (pc := 22) 29 dX10_damaged_22 (by decide) ?_ ?_
    · refine v_iconst (pc := 29) 0 dX10_damaged_29 (by decide) ?_
      refine v_istore_n (pc := 30) dX10_damaged_30 (by decide) ?_
      refine v_iconst (pc := 31) 0 dX10_damaged_31 (by decide) ?_
      refine v_istore_n (pc := 32) dX10_damaged_32 (by decide) ?_
      exact v_sub (wMd_damaged_33 l G FU v1 0 0 M1) rfl
    · refine v_sipush (pc := 25) (-1003) dX10_damaged_25 (by decide) ?_
      exact v_iret (pc := 28) dX10_damaged_28
  · refine v_sipush (pc := 12) (-1002) dX10_damaged_12 (by decide) ?_
    exact v_iret (pc := 15) dX10_damaged_15
theorem cMd_damaged (l : Launch) (G : zG) (v1 : Int32) (M : zM) : zC eI l G zLY zRY 4 yX10_damaged cX10_damaged 4 (some .int) [.ref 0, .int v1] M (fMd_damaged v1 M) := zC.of (by decide) (Nat.le_of_ble_eq_true rfl) (v_sub (wMd_damaged l G v1 M) rfl)
theorem dX10_nextOf_0 : decode cX10_nextOf 0 = .ok (.iload_n 1, 1) := by decide +kernel
theorem dX10_nextOf_1 : decode cX10_nextOf 1 = .ok (.iload_n 2, 1) := by decide +kernel
theorem dX10_nextOf_2 : decode cX10_nextOf 2 = .ok (.if_icmp .ne 5, 3) := by decide +kernel
theorem dX10_nextOf_5 : decode cX10_nextOf 5 = .ok (.iload_n 2, 1) := by decide +kernel
theorem dX10_nextOf_6 : decode cX10_nextOf 6 = .ok (.ireturn, 1) := by decide +kernel
theorem dX10_nextOf_7 : decode cX10_nextOf 7 = .ok (.aload_n 0, 1) := by decide +kernel
theorem dX10_nextOf_8 : decode cX10_nextOf 8 = .ok (.getfield 19, 3) := by decide +kernel
theorem dX10_nextOf_11 : decode cX10_nextOf 11 = .ok (.iload_n 1, 1) := by decide +kernel
theorem dX10_nextOf_12 : decode cX10_nextOf 12 = .ok (.iaload, 1) := by decide +kernel
theorem dX10_nextOf_13 : decode cX10_nextOf 13 = .ok (.aload_n 0, 1) := by decide +kernel
theorem dX10_nextOf_14 : decode cX10_nextOf 14 = .ok (.getfield 19, 3) := by decide +kernel
theorem dX10_nextOf_17 : decode cX10_nextOf 17 = .ok (.iload_n 2, 1) := by decide +kernel
theorem dX10_nextOf_18 : decode cX10_nextOf 18 = .ok (.iaload, 1) := by decide +kernel
theorem dX10_nextOf_19 : decode cX10_nextOf 19 = .ok (.if_icmp .eq 5, 3) := by decide +kernel
theorem dX10_nextOf_22 : decode cX10_nextOf 22 = .ok (.iconst (-1), 1) := by decide +kernel
theorem dX10_nextOf_23 : decode cX10_nextOf 23 = .ok (.ireturn, 1) := by decide +kernel
theorem dX10_nextOf_24 : decode cX10_nextOf 24 = .ok (.aload_n 0, 1) := by decide +kernel
theorem dX10_nextOf_25 : decode cX10_nextOf 25 = .ok (.getfield 31, 3) := by decide +kernel
theorem dX10_nextOf_28 : decode cX10_nextOf 28 = .ok (.iload_n 2, 1) := by decide +kernel
theorem dX10_nextOf_29 : decode cX10_nextOf 29 = .ok (.iaload, 1) := by decide +kernel
theorem dX10_nextOf_30 : decode cX10_nextOf 30 = .ok (.i2l, 1) := by decide +kernel
theorem dX10_nextOf_31 : decode cX10_nextOf 31 = .ok (.aload_n 0, 1) := by decide +kernel
theorem dX10_nextOf_32 : decode cX10_nextOf 32 = .ok (.getfield 31, 3) := by decide +kernel
theorem dX10_nextOf_35 : decode cX10_nextOf 35 = .ok (.iload_n 1, 1) := by decide +kernel
theorem dX10_nextOf_36 : decode cX10_nextOf 36 = .ok (.iaload, 1) := by decide +kernel
theorem dX10_nextOf_37 : decode cX10_nextOf 37 = .ok (.i2l, 1) := by decide +kernel
theorem dX10_nextOf_38 : decode cX10_nextOf 38 = .ok (.aload_n 0, 1) := by decide +kernel
theorem dX10_nextOf_39 : decode cX10_nextOf 39 = .ok (.getfield 34, 3) := by decide +kernel
theorem dX10_nextOf_42 : decode cX10_nextOf 42 = .ok (.iload_n 1, 1) := by decide +kernel
theorem dX10_nextOf_43 : decode cX10_nextOf 43 = .ok (.iaload, 1) := by decide +kernel
theorem dX10_nextOf_44 : decode cX10_nextOf 44 = .ok (.i2l, 1) := by decide +kernel
theorem dX10_nextOf_45 : decode cX10_nextOf 45 = .ok (.invokestatic 102, 3) := by decide +kernel
theorem dX10_nextOf_48 : decode cX10_nextOf 48 = .ok (.ifCond .ne 10, 3) := by decide +kernel
theorem dX10_nextOf_51 : decode cX10_nextOf 51 = .ok (.aload_n 0, 1) := by decide +kernel
theorem dX10_nextOf_52 : decode cX10_nextOf 52 = .ok (.getfield 16, 3) := by decide +kernel
theorem dX10_nextOf_55 : decode cX10_nextOf 55 = .ok (.iload_n 1, 1) := by decide +kernel
theorem dX10_nextOf_56 : decode cX10_nextOf 56 = .ok (.iaload, 1) := by decide +kernel
theorem dX10_nextOf_57 : decode cX10_nextOf 57 = .ok (.ireturn, 1) := by decide +kernel
theorem dX10_nextOf_58 : decode cX10_nextOf 58 = .ok (.iconst (-1), 1) := by decide +kernel
theorem dX10_nextOf_59 : decode cX10_nextOf 59 = .ok (.istore_n 3, 1) := by decide +kernel
theorem dX10_nextOf_60 : decode cX10_nextOf 60 = .ok (.iconst 0, 1) := by decide +kernel
theorem dX10_nextOf_61 : decode cX10_nextOf 61 = .ok (.istore 4, 2) := by decide +kernel
theorem dX10_nextOf_63 : decode cX10_nextOf 63 = .ok (.iload 4, 2) := by decide +kernel
theorem dX10_nextOf_65 : decode cX10_nextOf 65 = .ok (.aload_n 0, 1) := by decide +kernel
theorem dX10_nextOf_66 : decode cX10_nextOf 66 = .ok (.getfield 99, 3) := by decide +kernel
theorem dX10_nextOf_69 : decode cX10_nextOf 69 = .ok (.if_icmp .ge 56, 3) := by decide +kernel
theorem dX10_nextOf_72 : decode cX10_nextOf 72 = .ok (.aload_n 0, 1) := by decide +kernel
theorem dX10_nextOf_73 : decode cX10_nextOf 73 = .ok (.getfield 16, 3) := by decide +kernel
theorem dX10_nextOf_76 : decode cX10_nextOf 76 = .ok (.iload 4, 2) := by decide +kernel
theorem dX10_nextOf_78 : decode cX10_nextOf 78 = .ok (.iaload, 1) := by decide +kernel
theorem dX10_nextOf_79 : decode cX10_nextOf 79 = .ok (.iload_n 1, 1) := by decide +kernel
theorem dX10_nextOf_80 : decode cX10_nextOf 80 = .ok (.if_icmp .ne 37, 3) := by decide +kernel
theorem dX10_nextOf_83 : decode cX10_nextOf 83 = .ok (.aload_n 0, 1) := by decide +kernel
theorem dX10_nextOf_84 : decode cX10_nextOf 84 = .ok (.getfield 31, 3) := by decide +kernel
theorem dX10_nextOf_87 : decode cX10_nextOf 87 = .ok (.iload_n 2, 1) := by decide +kernel
theorem dX10_nextOf_88 : decode cX10_nextOf 88 = .ok (.iaload, 1) := by decide +kernel
theorem dX10_nextOf_89 : decode cX10_nextOf 89 = .ok (.i2l, 1) := by decide +kernel
theorem dX10_nextOf_90 : decode cX10_nextOf 90 = .ok (.aload_n 0, 1) := by decide +kernel
theorem dX10_nextOf_91 : decode cX10_nextOf 91 = .ok (.getfield 31, 3) := by decide +kernel
theorem dX10_nextOf_94 : decode cX10_nextOf 94 = .ok (.iload 4, 2) := by decide +kernel
theorem dX10_nextOf_96 : decode cX10_nextOf 96 = .ok (.iaload, 1) := by decide +kernel
theorem dX10_nextOf_97 : decode cX10_nextOf 97 = .ok (.i2l, 1) := by decide +kernel
theorem dX10_nextOf_98 : decode cX10_nextOf 98 = .ok (.aload_n 0, 1) := by decide +kernel
theorem dX10_nextOf_99 : decode cX10_nextOf 99 = .ok (.getfield 34, 3) := by decide +kernel
theorem dX10_nextOf_102 : decode cX10_nextOf 102 = .ok (.iload 4, 2) := by decide +kernel
theorem dX10_nextOf_104 : decode cX10_nextOf 104 = .ok (.iaload, 1) := by decide +kernel
theorem dX10_nextOf_105 : decode cX10_nextOf 105 = .ok (.i2l, 1) := by decide +kernel
theorem dX10_nextOf_106 : decode cX10_nextOf 106 = .ok (.invokestatic 102, 3) := by decide +kernel
theorem dX10_nextOf_109 : decode cX10_nextOf 109 = .ok (.ifCond .eq 8, 3) := by decide +kernel
theorem dX10_nextOf_112 : decode cX10_nextOf 112 = .ok (.iload 4, 2) := by decide +kernel
theorem dX10_nextOf_114 : decode cX10_nextOf 114 = .ok (.goto 4, 3) := by decide +kernel
theorem dX10_nextOf_117 : decode cX10_nextOf 117 = .ok (.iload_n 3, 1) := by decide +kernel
theorem dX10_nextOf_118 : decode cX10_nextOf 118 = .ok (.istore_n 3, 1) := by decide +kernel
theorem dX10_nextOf_119 : decode cX10_nextOf 119 = .ok (.iinc 4 1, 3) := by decide +kernel
theorem dX10_nextOf_122 : decode cX10_nextOf 122 = .ok (.goto (-59), 3) := by decide +kernel
theorem dX10_nextOf_125 : decode cX10_nextOf 125 = .ok (.iload_n 3, 1) := by decide +kernel
theorem dX10_nextOf_126 : decode cX10_nextOf 126 = .ok (.ireturn, 1) := by decide +kernel
theorem wMd_nextOf_63 (l : Launch) (G : zG) : ∀ (fuel : Nat) (v1 : Int32) (v2 : Int32) (v3 : Int32) (v4 : Int32) (M : zM), zV eI l G zLY zRY 2 yX10_nextOf cX10_nextOf 5 (some .int) 63 [(0, .ref 0), (1, .int v1), (2, .int v2), (3, .int v3), (4, .int v4)] [] M (fMd_nextOf_63 fuel v1 v2 v3 v4 M) := by
  intro fuel
  induction fuel with
  | zero => intro v1 v2 v3 v4 M; exact v_none
  | succ fuel ih =>
    intro v1 v2 v3 v4 M
    rw [fMd_nextOf_63]
    refine v_iload (pc := 63) dX10_nextOf_63 rfl ?_
    refine v_aload_n (pc := 65) dX10_nextOf_65 rfl ?_
    refine v_getI (pc := 66) (q := 0) zk10 ly_0 rfl tw_1026 dX10_nextOf_66 ?_
    refine v_icmp_ge (pc := 69) 125 dX10_nextOf_69 (by decide) ?_ ?_
    · refine v_iload_n (pc := 125) dX10_nextOf_125 rfl ?_
      exact v_iret (pc := 126) dX10_nextOf_126
    · refine v_aload_n (pc := 72) dX10_nextOf_72 rfl ?_
      refine v_getR (pc := 73) (q := 4) zk10 ly_0 rfl ry_0_4 tw_1030 dX10_nextOf_73 ?_
      refine v_iload (pc := 76) dX10_nextOf_76 rfl ?_
      refine v_iald (pc := 78) ly_3 dX10_nextOf_78 (fun x1 => ?_)
      refine v_iload_n (pc := 79) dX10_nextOf_79 rfl ?_
      refine v_icmp_ne (pc := 80) 117 dX10_nextOf_80 (by decide) ?_ ?_
      · refine v_iload_n (pc := 117) dX10_nextOf_117 rfl ?_
        refine v_istore_n (pc := 118) dX10_nextOf_118 (by decide) ?_
        refine v_iinc (pc := 119) 1 dX10_nextOf_119 rfl (by decide) (by decide) ?_
        refine v_goto (pc := 122) 63 dX10_nextOf_122 (by decide) ?_
        exact v_sub (ih v1 v2 v3 (v4 + 1) M) rfl
      · refine v_aload_n (pc := 83) dX10_nextOf_83 rfl ?_
        refine v_getR (pc := 84) (q := 11) zk10 ly_0 rfl ry_0_11 tw_1037 dX10_nextOf_84 ?_
        refine v_iload_n (pc := 87) dX10_nextOf_87 rfl ?_
        refine v_iald (pc := 88) ly_8 dX10_nextOf_88 (fun x2 => ?_)
        refine v_i2l (pc := 89) dX10_nextOf_89 ?_
        refine v_aload_n (pc := 90) dX10_nextOf_90 rfl ?_
        refine v_getR (pc := 91) (q := 11) zk10 ly_0 rfl ry_0_11 tw_1037 dX10_nextOf_91 ?_
        refine v_iload (pc := 94) dX10_nextOf_94 rfl ?_
        refine v_iald (pc := 96) ly_8 dX10_nextOf_96 (fun x3 => ?_)
        refine v_i2l (pc := 97) dX10_nextOf_97 ?_
        refine v_aload_n (pc := 98) dX10_nextOf_98 rfl ?_
        refine v_getR (pc := 99) (q := 12) zk10 ly_0 rfl ry_0_12 tw_1038 dX10_nextOf_99 ?_
        refine v_iload (pc := 102) dX10_nextOf_102 rfl ?_
        refine v_iald (pc := 104) ly_9 dX10_nextOf_104 (fun x4 => ?_)
        refine v_i2l (pc := 105) dX10_nextOf_105 ?_
        refine v_callS (pc := 106) (As := [.long x2.toInt64, .long x3.toInt64, .long x4.toInt64]) (cMd_in l G x2.toInt64 x3.toInt64 x4.toInt64 M) zc_X10_in tw_1153 (by decide) (Nat.le_of_ble_eq_true rfl) dX10_nextOf_106 (fun r6 M5 => ?_)
        refine v_if_eq (pc := 109) 117 dX10_nextOf_109 (by decide) ?_ ?_
        · refine v_iload_n (pc := 117) dX10_nextOf_117 rfl ?_
          refine v_istore_n (pc := 118) dX10_nextOf_118 (by decide) ?_
          refine v_iinc (pc := 119) 1 dX10_nextOf_119 rfl (by decide) (by decide) ?_
          refine v_goto (pc := 122) 63 dX10_nextOf_122 (by decide) ?_
          exact v_sub (ih v1 v2 v3 (v4 + 1) M5) rfl
        · refine v_iload (pc := 112) dX10_nextOf_112 rfl ?_
          refine v_goto (pc := 114) 118 dX10_nextOf_114 (by decide) ?_
          refine v_istore_n (pc := 118) dX10_nextOf_118 (by decide) ?_
          refine v_iinc (pc := 119) 1 dX10_nextOf_119 rfl (by decide) (by decide) ?_
          refine v_goto (pc := 122) 63 dX10_nextOf_122 (by decide) ?_
          exact v_sub (ih v1 v2 v4 (v4 + 1) M5) rfl
theorem wMd_nextOf (l : Launch) (G : zG) (v1 : Int32) (v2 : Int32) (M : zM) : zV eI l G zLY zRY 2 yX10_nextOf cX10_nextOf 5 (some .int) 0 [(0, .ref 0), (1, .int v1), (2, .int v2)] [] M (fMd_nextOf v1 v2 M) := by
  rw [fMd_nextOf]
  refine v_iload_n (pc := 0) dX10_nextOf_0 rfl ?_
  refine v_iload_n (pc := 1) dX10_nextOf_1 rfl ?_
  refine v_icmp_ne (pc := 2) 7 dX10_nextOf_2 (by decide) ?_ ?_
  · refine v_aload_n (pc := 7) dX10_nextOf_7 rfl ?_
    refine v_getR (pc := 8) (q := 5) zk10 ly_0 rfl ry_0_5 tw_1031 dX10_nextOf_8 ?_
    refine v_iload_n (pc := 11) dX10_nextOf_11 rfl ?_
    refine v_iald (pc := 12) ly_4 dX10_nextOf_12 (fun x1 => ?_)
    refine v_aload_n (pc := 13) dX10_nextOf_13 rfl ?_
    refine v_getR (pc := 14) (q := 5) zk10 ly_0 rfl ry_0_5 tw_1031 dX10_nextOf_14 ?_
    refine v_iload_n (pc := 17) dX10_nextOf_17 rfl ?_
    refine v_iald (pc := 18) ly_4 dX10_nextOf_18 (fun x2 => ?_)
    refine v_icmp_eq (pc := 19) 24 dX10_nextOf_19 (by decide) ?_ ?_
    · refine v_aload_n (pc := 24) dX10_nextOf_24 rfl ?_
      refine v_getR (pc := 25) (q := 11) zk10 ly_0 rfl ry_0_11 tw_1037 dX10_nextOf_25 ?_
      refine v_iload_n (pc := 28) dX10_nextOf_28 rfl ?_
      refine v_iald (pc := 29) ly_8 dX10_nextOf_29 (fun x3 => ?_)
      refine v_i2l (pc := 30) dX10_nextOf_30 ?_
      refine v_aload_n (pc := 31) dX10_nextOf_31 rfl ?_
      refine v_getR (pc := 32) (q := 11) zk10 ly_0 rfl ry_0_11 tw_1037 dX10_nextOf_32 ?_
      refine v_iload_n (pc := 35) dX10_nextOf_35 rfl ?_
      refine v_iald (pc := 36) ly_8 dX10_nextOf_36 (fun x4 => ?_)
      refine v_i2l (pc := 37) dX10_nextOf_37 ?_
      refine v_aload_n (pc := 38) dX10_nextOf_38 rfl ?_
      refine v_getR (pc := 39) (q := 12) zk10 ly_0 rfl ry_0_12 tw_1038 dX10_nextOf_39 ?_
      refine v_iload_n (pc := 42) dX10_nextOf_42 rfl ?_
      refine v_iald (pc := 43) ly_9 dX10_nextOf_43 (fun x5 => ?_)
      refine v_i2l (pc := 44) dX10_nextOf_44 ?_
      refine v_callS (pc := 45) (As := [.long x3.toInt64, .long x4.toInt64, .long x5.toInt64]) (cMd_in l G x3.toInt64 x4.toInt64 x5.toInt64 M) zc_X10_in tw_1153 (by decide) (Nat.le_of_ble_eq_true rfl) dX10_nextOf_45 (fun r7 M6 => ?_)
      refine v_if_ne (pc := 48) 58 dX10_nextOf_48 (by decide) ?_ ?_
      · refine v_iconst (pc := 58) (-1) dX10_nextOf_58 (by decide) ?_
        refine v_istore_n (pc := 59) dX10_nextOf_59 (by decide) ?_
        refine v_iconst (pc := 60) 0 dX10_nextOf_60 (by decide) ?_
        refine v_istore (pc := 61) dX10_nextOf_61 (by decide) ?_
        exact v_sub (wMd_nextOf_63 l G FU v1 v2 (-1) 0 M6) rfl
      · refine v_aload_n (pc := 51) dX10_nextOf_51 rfl ?_
        refine v_getR (pc := 52) (q := 4) zk10 ly_0 rfl ry_0_4 tw_1030 dX10_nextOf_52 ?_
        refine v_iload_n (pc := 55) dX10_nextOf_55 rfl ?_
        refine v_iald (pc := 56) ly_3 dX10_nextOf_56 (fun x8 => ?_)
        exact v_iret (pc := 57) dX10_nextOf_57
    · refine v_iconst (pc := 22) (-1) dX10_nextOf_22 (by decide) ?_
      exact v_iret (pc := 23) dX10_nextOf_23
  · refine v_iload_n (pc := 5) dX10_nextOf_5 rfl ?_
    exact v_iret (pc := 6) dX10_nextOf_6
theorem cMd_nextOf (l : Launch) (G : zG) (v1 : Int32) (v2 : Int32) (M : zM) : zC eI l G zLY zRY 2 yX10_nextOf cX10_nextOf 5 (some .int) [.ref 0, .int v1, .int v2] M (fMd_nextOf v1 v2 M) := zC.of (by decide) (Nat.le_of_ble_eq_true rfl) (v_sub (wMd_nextOf l G v1 v2 M) rfl)
theorem dX10_next_0 : decode cX10_next 0 = .ok (.aload_n 0, 1) := by decide +kernel
theorem dX10_next_1 : decode cX10_next 1 = .ok (.iload_n 1, 1) := by decide +kernel
theorem dX10_next_2 : decode cX10_next 2 = .ok (.invokevirtual 115, 3) := by decide +kernel
theorem dX10_next_5 : decode cX10_next 5 = .ok (.ifCond .ne 11, 3) := by decide +kernel
theorem dX10_next_8 : decode cX10_next 8 = .ok (.aload_n 0, 1) := by decide +kernel
theorem dX10_next_9 : decode cX10_next 9 = .ok (.iload_n 2, 1) := by decide +kernel
theorem dX10_next_10 : decode cX10_next 10 = .ok (.invokevirtual 115, 3) := by decide +kernel
theorem dX10_next_13 : decode cX10_next 13 = .ok (.ifCond .eq 7, 3) := by decide +kernel
theorem dX10_next_16 : decode cX10_next 16 = .ok (.sipush (-1001), 3) := by decide +kernel
theorem dX10_next_19 : decode cX10_next 19 = .ok (.ireturn, 1) := by decide +kernel
theorem dX10_next_20 : decode cX10_next 20 = .ok (.aload_n 0, 1) := by decide +kernel
theorem dX10_next_21 : decode cX10_next 21 = .ok (.iconst 0, 1) := by decide +kernel
theorem dX10_next_22 : decode cX10_next 22 = .ok (.invokevirtual 188, 3) := by decide +kernel
theorem dX10_next_25 : decode cX10_next 25 = .ok (.aload_n 0, 1) := by decide +kernel
theorem dX10_next_26 : decode cX10_next 26 = .ok (.iload_n 1, 1) := by decide +kernel
theorem dX10_next_27 : decode cX10_next 27 = .ok (.iload_n 2, 1) := by decide +kernel
theorem dX10_next_28 : decode cX10_next 28 = .ok (.invokevirtual 228, 3) := by decide +kernel
theorem dX10_next_31 : decode cX10_next 31 = .ok (.ireturn, 1) := by decide +kernel
theorem wMd_next (l : Launch) (G : zG) (v1 : Int32) (v2 : Int32) (M : zM) : zV eI l G zLY zRY 6 yX10_next cX10_next 3 (some .int) 0 [(0, .ref 0), (1, .int v1), (2, .int v2)] [] M (fMd_next v1 v2 M) := by
  rw [fMd_next]
  refine v_aload_n (pc := 0) dX10_next_0 rfl ?_
  refine v_iload_n (pc := 1) dX10_next_1 rfl ?_
  refine v_callV (pc := 2) (As := [.int v1]) (cMd_noPost l G v1 M) zc_X10_noPost zk10 rfl ly_0 tw_1164 (by decide) (Nat.le_of_ble_eq_true rfl) dX10_next_2 (fun r2 M1 => ?_)
  refine v_if_ne (pc := 5) 16 dX10_next_5 (by decide) ?_ ?_
  · refine v_sipush (pc := 16) (-1001) dX10_next_16 (by decide) ?_
    exact v_iret (pc := 19) dX10_next_19
  · refine v_aload_n (pc := 8) dX10_next_8 rfl ?_
    refine v_iload_n (pc := 9) dX10_next_9 rfl ?_
    refine v_callV (pc := 10) (As := [.int v2]) (cMd_noPost l G v2 M1) zc_X10_noPost zk10 rfl ly_0 tw_1164 (by decide) (Nat.le_of_ble_eq_true rfl) dX10_next_10 (fun r4 M3 => ?_)
    refine v_if_eq (pc := 13) 20 dX10_next_13 (by decide) ?_ ?_
    · refine v_aload_n (pc := 20) dX10_next_20 rfl ?_
      refine v_iconst (pc := 21) 0 dX10_next_21 (by decide) ?_
      refine v_callV (pc := 22) (As := [.int 0]) (cMd_findNames l G 0 M3) zc_X10_findNames zk10 rfl ly_0 tw_1232 (by decide) (Nat.le_of_ble_eq_true rfl) dX10_next_22 (fun _ M5 => ?_)
      skip
      refine v_aload_n (pc := 25) dX10_next_25 rfl ?_
      refine v_iload_n (pc := 26) dX10_next_26 rfl ?_
      refine v_iload_n (pc := 27) dX10_next_27 rfl ?_
      refine v_callV (pc := 28) (As := [.int v1, .int v2]) (cMd_nextOf l G v1 v2 M5) zc_X10_nextOf zk10 rfl ly_0 tw_1345 (by decide) (Nat.le_of_ble_eq_true rfl) dX10_next_28 (fun r7 M6 => ?_)
      exact v_iret (pc := 31) dX10_next_31
    · refine v_sipush (pc := 16) (-1001) dX10_next_16 (by decide) ?_
      exact v_iret (pc := 19) dX10_next_19
theorem cMd_next (l : Launch) (G : zG) (v1 : Int32) (v2 : Int32) (M : zM) : zC eI l G zLY zRY 6 yX10_next cX10_next 3 (some .int) [.ref 0, .int v1, .int v2] M (fMd_next v1 v2 M) := zC.of (by decide) (Nat.le_of_ble_eq_true rfl) (v_sub (wMd_next l G v1 v2 M) rfl)
theorem dX10_goesOf_0 : decode cX10_goesOf 0 = .ok (.iconst 0, 1) := by decide +kernel
theorem dX10_goesOf_1 : decode cX10_goesOf 1 = .ok (.istore_n 3, 1) := by decide +kernel
theorem dX10_goesOf_2 : decode cX10_goesOf 2 = .ok (.iload_n 1, 1) := by decide +kernel
theorem dX10_goesOf_3 : decode cX10_goesOf 3 = .ok (.istore 4, 2) := by decide +kernel
theorem dX10_goesOf_5 : decode cX10_goesOf 5 = .ok (.iload 4, 2) := by decide +kernel
theorem dX10_goesOf_7 : decode cX10_goesOf 7 = .ok (.iload_n 2, 1) := by decide +kernel
theorem dX10_goesOf_8 : decode cX10_goesOf 8 = .ok (.if_icmp .eq 23, 3) := by decide +kernel
theorem dX10_goesOf_11 : decode cX10_goesOf 11 = .ok (.iload 4, 2) := by decide +kernel
theorem dX10_goesOf_13 : decode cX10_goesOf 13 = .ok (.ifCond .lt 18, 3) := by decide +kernel
theorem dX10_goesOf_16 : decode cX10_goesOf 16 = .ok (.aload_n 0, 1) := by decide +kernel
theorem dX10_goesOf_17 : decode cX10_goesOf 17 = .ok (.iload 4, 2) := by decide +kernel
theorem dX10_goesOf_19 : decode cX10_goesOf 19 = .ok (.iload_n 2, 1) := by decide +kernel
theorem dX10_goesOf_20 : decode cX10_goesOf 20 = .ok (.invokevirtual 228, 3) := by decide +kernel
theorem dX10_goesOf_23 : decode cX10_goesOf 23 = .ok (.istore 4, 2) := by decide +kernel
theorem dX10_goesOf_25 : decode cX10_goesOf 25 = .ok (.iinc 3 1, 3) := by decide +kernel
theorem dX10_goesOf_28 : decode cX10_goesOf 28 = .ok (.goto (-23), 3) := by decide +kernel
theorem dX10_goesOf_31 : decode cX10_goesOf 31 = .ok (.iload 4, 2) := by decide +kernel
theorem dX10_goesOf_33 : decode cX10_goesOf 33 = .ok (.ifCond .ge 7, 3) := by decide +kernel
theorem dX10_goesOf_36 : decode cX10_goesOf 36 = .ok (.iconst (-1), 1) := by decide +kernel
theorem dX10_goesOf_37 : decode cX10_goesOf 37 = .ok (.goto 4, 3) := by decide +kernel
theorem dX10_goesOf_40 : decode cX10_goesOf 40 = .ok (.iload_n 3, 1) := by decide +kernel
theorem dX10_goesOf_41 : decode cX10_goesOf 41 = .ok (.ireturn, 1) := by decide +kernel
theorem wMd_goesOf_31 (l : Launch) (G : zG) (v3 : Int32) (v4 : Int32) (M : zM) : zV eI l G zLY zRY 3 yX10_goesOf cX10_goesOf 5 (some .int) 31 [(3, .int v3), (4, .int v4)] [] M (fMd_goesOf_31 v3 v4 M) := by
  rw [fMd_goesOf_31]
  refine v_iload (pc := 31) dX10_goesOf_31 rfl ?_
  refine v_if_ge (pc := 33) 40 dX10_goesOf_33 (by decide) ?_ ?_
  · refine v_iload_n (pc := 40) dX10_goesOf_40 rfl ?_
    exact v_iret (pc := 41) dX10_goesOf_41
  · refine v_iconst (pc := 36) (-1) dX10_goesOf_36 (by decide) ?_
    refine v_goto (pc := 37) 41 dX10_goesOf_37 (by decide) ?_
    exact v_iret (pc := 41) dX10_goesOf_41
theorem wMd_goesOf_5 (l : Launch) (G : zG) : ∀ (fuel : Nat) (v2 : Int32) (v3 : Int32) (v4 : Int32) (M : zM), zV eI l G zLY zRY 3 yX10_goesOf cX10_goesOf 5 (some .int) 5 [(0, .ref 0), (2, .int v2), (3, .int v3), (4, .int v4)] [] M (fMd_goesOf_5 fuel v2 v3 v4 M) := by
  intro fuel
  induction fuel with
  | zero => intro v2 v3 v4 M; exact v_none
  | succ fuel ih =>
    intro v2 v3 v4 M
    rw [fMd_goesOf_5]
    refine v_iload (pc := 5) dX10_goesOf_5 rfl ?_
    refine v_iload_n (pc := 7) dX10_goesOf_7 rfl ?_
    refine v_icmp_eq (pc := 8) 31 dX10_goesOf_8 (by decide) ?_ ?_
    · exact v_sub (wMd_goesOf_31 l G v3 v4 M) rfl
    · refine v_iload (pc := 11) dX10_goesOf_11 rfl ?_
      refine v_if_lt (pc := 13) 31 dX10_goesOf_13 (by decide) ?_ ?_
      · exact v_sub (wMd_goesOf_31 l G v3 v4 M) rfl
      · refine v_aload_n (pc := 16) dX10_goesOf_16 rfl ?_
        refine v_iload (pc := 17) dX10_goesOf_17 rfl ?_
        refine v_iload_n (pc := 19) dX10_goesOf_19 rfl ?_
        refine v_callV (pc := 20) (As := [.int v4, .int v2]) (cMd_nextOf l G v4 v2 M) zc_X10_nextOf zk10 rfl ly_0 tw_1345 (by decide) (Nat.le_of_ble_eq_true rfl) dX10_goesOf_20 (fun r2 M1 => ?_)
        refine v_istore (pc := 23) dX10_goesOf_23 (by decide) ?_
        refine v_iinc (pc := 25) 1 dX10_goesOf_25 rfl (by decide) (by decide) ?_
        refine v_goto (pc := 28) 5 dX10_goesOf_28 (by decide) ?_
        exact v_sub (ih v2 (v3 + 1) r2 M1) rfl
theorem wMd_goesOf (l : Launch) (G : zG) (v1 : Int32) (v2 : Int32) (M : zM) : zV eI l G zLY zRY 3 yX10_goesOf cX10_goesOf 5 (some .int) 0 [(0, .ref 0), (1, .int v1), (2, .int v2)] [] M (fMd_goesOf v1 v2 M) := by
  rw [fMd_goesOf]
  refine v_iconst (pc := 0) 0 dX10_goesOf_0 (by decide) ?_
  refine v_istore_n (pc := 1) dX10_goesOf_1 (by decide) ?_
  refine v_iload_n (pc := 2) dX10_goesOf_2 rfl ?_
  refine v_istore (pc := 3) dX10_goesOf_3 (by decide) ?_
  exact v_sub (wMd_goesOf_5 l G FU v2 0 v1 M) rfl
theorem cMd_goesOf (l : Launch) (G : zG) (v1 : Int32) (v2 : Int32) (M : zM) : zC eI l G zLY zRY 3 yX10_goesOf cX10_goesOf 5 (some .int) [.ref 0, .int v1, .int v2] M (fMd_goesOf v1 v2 M) := zC.of (by decide) (Nat.le_of_ble_eq_true rfl) (v_sub (wMd_goesOf l G v1 v2 M) rfl)
theorem dX10_goes_0 : decode cX10_goes 0 = .ok (.aload_n 0, 1) := by decide +kernel
theorem dX10_goes_1 : decode cX10_goes 1 = .ok (.iload_n 1, 1) := by decide +kernel
theorem dX10_goes_2 : decode cX10_goes 2 = .ok (.invokevirtual 115, 3) := by decide +kernel
theorem dX10_goes_5 : decode cX10_goes 5 = .ok (.ifCond .ne 11, 3) := by decide +kernel
theorem dX10_goes_8 : decode cX10_goes 8 = .ok (.aload_n 0, 1) := by decide +kernel
theorem dX10_goes_9 : decode cX10_goes 9 = .ok (.iload_n 2, 1) := by decide +kernel
theorem dX10_goes_10 : decode cX10_goes 10 = .ok (.invokevirtual 115, 3) := by decide +kernel
theorem dX10_goes_13 : decode cX10_goes 13 = .ok (.ifCond .eq 7, 3) := by decide +kernel
theorem dX10_goes_16 : decode cX10_goes 16 = .ok (.sipush (-1001), 3) := by decide +kernel
theorem dX10_goes_19 : decode cX10_goes 19 = .ok (.ireturn, 1) := by decide +kernel
theorem dX10_goes_20 : decode cX10_goes 20 = .ok (.aload_n 0, 1) := by decide +kernel
theorem dX10_goes_21 : decode cX10_goes 21 = .ok (.iconst 0, 1) := by decide +kernel
theorem dX10_goes_22 : decode cX10_goes 22 = .ok (.invokevirtual 188, 3) := by decide +kernel
theorem dX10_goes_25 : decode cX10_goes 25 = .ok (.aload_n 0, 1) := by decide +kernel
theorem dX10_goes_26 : decode cX10_goes 26 = .ok (.iload_n 1, 1) := by decide +kernel
theorem dX10_goes_27 : decode cX10_goes 27 = .ok (.iload_n 2, 1) := by decide +kernel
theorem dX10_goes_28 : decode cX10_goes 28 = .ok (.invokevirtual 231, 3) := by decide +kernel
theorem dX10_goes_31 : decode cX10_goes 31 = .ok (.ireturn, 1) := by decide +kernel
theorem wMd_goes (l : Launch) (G : zG) (v1 : Int32) (v2 : Int32) (M : zM) : zV eI l G zLY zRY 6 yX10_goes cX10_goes 3 (some .int) 0 [(0, .ref 0), (1, .int v1), (2, .int v2)] [] M (fMd_goes v1 v2 M) := by
  rw [fMd_goes]
  refine v_aload_n (pc := 0) dX10_goes_0 rfl ?_
  refine v_iload_n (pc := 1) dX10_goes_1 rfl ?_
  refine v_callV (pc := 2) (As := [.int v1]) (cMd_noPost l G v1 M) zc_X10_noPost zk10 rfl ly_0 tw_1164 (by decide) (Nat.le_of_ble_eq_true rfl) dX10_goes_2 (fun r2 M1 => ?_)
  refine v_if_ne (pc := 5) 16 dX10_goes_5 (by decide) ?_ ?_
  · refine v_sipush (pc := 16) (-1001) dX10_goes_16 (by decide) ?_
    exact v_iret (pc := 19) dX10_goes_19
  · refine v_aload_n (pc := 8) dX10_goes_8 rfl ?_
    refine v_iload_n (pc := 9) dX10_goes_9 rfl ?_
    refine v_callV (pc := 10) (As := [.int v2]) (cMd_noPost l G v2 M1) zc_X10_noPost zk10 rfl ly_0 tw_1164 (by decide) (Nat.le_of_ble_eq_true rfl) dX10_goes_10 (fun r4 M3 => ?_)
    refine v_if_eq (pc := 13) 20 dX10_goes_13 (by decide) ?_ ?_
    · refine v_aload_n (pc := 20) dX10_goes_20 rfl ?_
      refine v_iconst (pc := 21) 0 dX10_goes_21 (by decide) ?_
      refine v_callV (pc := 22) (As := [.int 0]) (cMd_findNames l G 0 M3) zc_X10_findNames zk10 rfl ly_0 tw_1232 (by decide) (Nat.le_of_ble_eq_true rfl) dX10_goes_22 (fun _ M5 => ?_)
      skip
      refine v_aload_n (pc := 25) dX10_goes_25 rfl ?_
      refine v_iload_n (pc := 26) dX10_goes_26 rfl ?_
      refine v_iload_n (pc := 27) dX10_goes_27 rfl ?_
      refine v_callV (pc := 28) (As := [.int v1, .int v2]) (cMd_goesOf l G v1 v2 M5) zc_X10_goesOf zk10 rfl ly_0 tw_1353 (by decide) (Nat.le_of_ble_eq_true rfl) dX10_goes_28 (fun r7 M6 => ?_)
      exact v_iret (pc := 31) dX10_goes_31
    · refine v_sipush (pc := 16) (-1001) dX10_goes_16 (by decide) ?_
      exact v_iret (pc := 19) dX10_goes_19
theorem cMd_goes (l : Launch) (G : zG) (v1 : Int32) (v2 : Int32) (M : zM) : zC eI l G zLY zRY 6 yX10_goes cX10_goes 3 (some .int) [.ref 0, .int v1, .int v2] M (fMd_goes v1 v2 M) := zC.of (by decide) (Nat.le_of_ble_eq_true rfl) (v_sub (wMd_goes l G v1 v2 M) rfl)
theorem dX10_findWays_0 : decode cX10_findWays 0 = .ok (.iconst 0, 1) := by decide +kernel
theorem dX10_findWays_1 : decode cX10_findWays 1 = .ok (.istore_n 2, 1) := by decide +kernel
theorem dX10_findWays_2 : decode cX10_findWays 2 = .ok (.iload_n 2, 1) := by decide +kernel
theorem dX10_findWays_3 : decode cX10_findWays 3 = .ok (.aload_n 0, 1) := by decide +kernel
theorem dX10_findWays_4 : decode cX10_findWays 4 = .ok (.getfield 99, 3) := by decide +kernel
theorem dX10_findWays_7 : decode cX10_findWays 7 = .ok (.if_icmp .ge 16, 3) := by decide +kernel
theorem dX10_findWays_10 : decode cX10_findWays 10 = .ok (.aload_n 0, 1) := by decide +kernel
theorem dX10_findWays_11 : decode cX10_findWays 11 = .ok (.getfield 52, 3) := by decide +kernel
theorem dX10_findWays_14 : decode cX10_findWays 14 = .ok (.iload_n 2, 1) := by decide +kernel
theorem dX10_findWays_15 : decode cX10_findWays 15 = .ok (.iconst (-1), 1) := by decide +kernel
theorem dX10_findWays_16 : decode cX10_findWays 16 = .ok (.iastore, 1) := by decide +kernel
theorem dX10_findWays_17 : decode cX10_findWays 17 = .ok (.iinc 2 1, 3) := by decide +kernel
theorem dX10_findWays_20 : decode cX10_findWays 20 = .ok (.goto (-18), 3) := by decide +kernel
theorem dX10_findWays_23 : decode cX10_findWays 23 = .ok (.aload_n 0, 1) := by decide +kernel
theorem dX10_findWays_24 : decode cX10_findWays 24 = .ok (.getfield 52, 3) := by decide +kernel
theorem dX10_findWays_27 : decode cX10_findWays 27 = .ok (.iload_n 1, 1) := by decide +kernel
theorem dX10_findWays_28 : decode cX10_findWays 28 = .ok (.iconst 0, 1) := by decide +kernel
theorem dX10_findWays_29 : decode cX10_findWays 29 = .ok (.iastore, 1) := by decide +kernel
theorem dX10_findWays_30 : decode cX10_findWays 30 = .ok (.aload_n 0, 1) := by decide +kernel
theorem dX10_findWays_31 : decode cX10_findWays 31 = .ok (.getfield 28, 3) := by decide +kernel
theorem dX10_findWays_34 : decode cX10_findWays 34 = .ok (.iconst 0, 1) := by decide +kernel
theorem dX10_findWays_35 : decode cX10_findWays 35 = .ok (.iload_n 1, 1) := by decide +kernel
theorem dX10_findWays_36 : decode cX10_findWays 36 = .ok (.iastore, 1) := by decide +kernel
theorem dX10_findWays_37 : decode cX10_findWays 37 = .ok (.iconst 1, 1) := by decide +kernel
theorem dX10_findWays_38 : decode cX10_findWays 38 = .ok (.istore_n 2, 1) := by decide +kernel
theorem dX10_findWays_39 : decode cX10_findWays 39 = .ok (.iconst 0, 1) := by decide +kernel
theorem dX10_findWays_40 : decode cX10_findWays 40 = .ok (.istore_n 3, 1) := by decide +kernel
theorem dX10_findWays_41 : decode cX10_findWays 41 = .ok (.iload_n 3, 1) := by decide +kernel
theorem dX10_findWays_42 : decode cX10_findWays 42 = .ok (.iload_n 2, 1) := by decide +kernel
theorem dX10_findWays_43 : decode cX10_findWays 43 = .ok (.if_icmp .ge 83, 3) := by decide +kernel
theorem dX10_findWays_46 : decode cX10_findWays 46 = .ok (.iconst 0, 1) := by decide +kernel
theorem dX10_findWays_47 : decode cX10_findWays 47 = .ok (.istore 4, 2) := by decide +kernel
theorem dX10_findWays_49 : decode cX10_findWays 49 = .ok (.iload 4, 2) := by decide +kernel
theorem dX10_findWays_51 : decode cX10_findWays 51 = .ok (.aload_n 0, 1) := by decide +kernel
theorem dX10_findWays_52 : decode cX10_findWays 52 = .ok (.getfield 99, 3) := by decide +kernel
theorem dX10_findWays_55 : decode cX10_findWays 55 = .ok (.if_icmp .ge 65, 3) := by decide +kernel
theorem dX10_findWays_58 : decode cX10_findWays 58 = .ok (.aload_n 0, 1) := by decide +kernel
theorem dX10_findWays_59 : decode cX10_findWays 59 = .ok (.getfield 52, 3) := by decide +kernel
theorem dX10_findWays_62 : decode cX10_findWays 62 = .ok (.iload 4, 2) := by decide +kernel
theorem dX10_findWays_64 : decode cX10_findWays 64 = .ok (.iaload, 1) := by decide +kernel
theorem dX10_findWays_65 : decode cX10_findWays 65 = .ok (.ifCond .ge 49, 3) := by decide +kernel
theorem dX10_findWays_68 : decode cX10_findWays 68 = .ok (.aload_n 0, 1) := by decide +kernel
theorem dX10_findWays_69 : decode cX10_findWays 69 = .ok (.aload_n 0, 1) := by decide +kernel
theorem dX10_findWays_70 : decode cX10_findWays 70 = .ok (.getfield 28, 3) := by decide +kernel
theorem dX10_findWays_73 : decode cX10_findWays 73 = .ok (.iload_n 3, 1) := by decide +kernel
theorem dX10_findWays_74 : decode cX10_findWays 74 = .ok (.iaload, 1) := by decide +kernel
theorem dX10_findWays_75 : decode cX10_findWays 75 = .ok (.iload 4, 2) := by decide +kernel
theorem dX10_findWays_77 : decode cX10_findWays 77 = .ok (.invokevirtual 119, 3) := by decide +kernel
theorem dX10_findWays_80 : decode cX10_findWays 80 = .ok (.ifCond .lt 34, 3) := by decide +kernel
theorem dX10_findWays_83 : decode cX10_findWays 83 = .ok (.aload_n 0, 1) := by decide +kernel
theorem dX10_findWays_84 : decode cX10_findWays 84 = .ok (.getfield 52, 3) := by decide +kernel
theorem dX10_findWays_87 : decode cX10_findWays 87 = .ok (.iload 4, 2) := by decide +kernel
theorem dX10_findWays_89 : decode cX10_findWays 89 = .ok (.aload_n 0, 1) := by decide +kernel
theorem dX10_findWays_90 : decode cX10_findWays 90 = .ok (.getfield 52, 3) := by decide +kernel
theorem dX10_findWays_93 : decode cX10_findWays 93 = .ok (.aload_n 0, 1) := by decide +kernel
theorem dX10_findWays_94 : decode cX10_findWays 94 = .ok (.getfield 28, 3) := by decide +kernel
theorem dX10_findWays_97 : decode cX10_findWays 97 = .ok (.iload_n 3, 1) := by decide +kernel
theorem dX10_findWays_98 : decode cX10_findWays 98 = .ok (.iaload, 1) := by decide +kernel
theorem dX10_findWays_99 : decode cX10_findWays 99 = .ok (.iaload, 1) := by decide +kernel
theorem dX10_findWays_100 : decode cX10_findWays 100 = .ok (.iconst 1, 1) := by decide +kernel
theorem dX10_findWays_101 : decode cX10_findWays 101 = .ok (.iadd, 1) := by decide +kernel
theorem dX10_findWays_102 : decode cX10_findWays 102 = .ok (.iastore, 1) := by decide +kernel
theorem dX10_findWays_103 : decode cX10_findWays 103 = .ok (.aload_n 0, 1) := by decide +kernel
theorem dX10_findWays_104 : decode cX10_findWays 104 = .ok (.getfield 28, 3) := by decide +kernel
theorem dX10_findWays_107 : decode cX10_findWays 107 = .ok (.iload_n 2, 1) := by decide +kernel
theorem dX10_findWays_108 : decode cX10_findWays 108 = .ok (.iload 4, 2) := by decide +kernel
theorem dX10_findWays_110 : decode cX10_findWays 110 = .ok (.iastore, 1) := by decide +kernel
theorem dX10_findWays_111 : decode cX10_findWays 111 = .ok (.iinc 2 1, 3) := by decide +kernel
theorem dX10_findWays_114 : decode cX10_findWays 114 = .ok (.iinc 4 1, 3) := by decide +kernel
theorem dX10_findWays_117 : decode cX10_findWays 117 = .ok (.goto (-68), 3) := by decide +kernel
theorem dX10_findWays_120 : decode cX10_findWays 120 = .ok (.iinc 3 1, 3) := by decide +kernel
theorem dX10_findWays_123 : decode cX10_findWays 123 = .ok (.goto (-82), 3) := by decide +kernel
theorem dX10_findWays_126 : decode cX10_findWays 126 = .ok (.return_, 1) := by decide +kernel
theorem wMd_findWays_49 (l : Launch) (G : zG) (k41 : Int32 → Int32 → zM → Option (Unit × zM)) (hk41 : ∀ (v2 : Int32) (v3 : Int32) (M : zM), zV eV l G zLY zRY 2 yX10_findWays cX10_findWays 5 none 41 [(0, .ref 0), (2, .int v2), (3, .int v3)] [] M (k41 v2 v3 M)) : ∀ (fuel : Nat) (v2 : Int32) (v3 : Int32) (v4 : Int32) (M : zM), zV eV l G zLY zRY 2 yX10_findWays cX10_findWays 5 none 49 [(0, .ref 0), (2, .int v2), (3, .int v3), (4, .int v4)] [] M (fMd_findWays_49 k41 fuel v2 v3 v4 M) := by
  intro fuel
  induction fuel with
  | zero => intro v2 v3 v4 M; exact v_none
  | succ fuel ih =>
    intro v2 v3 v4 M
    rw [fMd_findWays_49]
    refine v_iload (pc := 49) dX10_findWays_49 rfl ?_
    refine v_aload_n (pc := 51) dX10_findWays_51 rfl ?_
    refine v_getI (pc := 52) (q := 0) zk10 ly_0 rfl tw_1026 dX10_findWays_52 ?_
    refine v_icmp_ge (pc := 55) 120 dX10_findWays_55 (by decide) ?_ ?_
    · refine v_iinc (pc := 120) 1 dX10_findWays_120 rfl (by decide) (by decide) ?_
      refine v_goto (pc := 123) 41 dX10_findWays_123 (by decide) ?_
      exact v_sub (hk41 v2 (v3 + 1) M) rfl
    · refine v_aload_n (pc := 58) dX10_findWays_58 rfl ?_
      refine v_getR (pc := 59) (q := 18) zk10 ly_0 rfl ry_0_18 tw_1044 dX10_findWays_59 ?_
      refine v_iload (pc := 62) dX10_findWays_62 rfl ?_
      refine v_iald (pc := 64) ly_15 dX10_findWays_64 (fun x1 => ?_)
      refine v_if_ge (pc := 65) 114 dX10_findWays_65 (by decide) ?_ ?_
      · refine v_iinc (pc := 114) 1 dX10_findWays_114 rfl (by decide) (by decide) ?_
        refine v_goto (pc := 117) 49 dX10_findWays_117 (by decide) ?_
        exact v_sub (ih v2 v3 (v4 + 1) M) rfl
      · refine v_aload_n (pc := 68) dX10_findWays_68 rfl ?_
        refine v_aload_n (pc := 69) dX10_findWays_69 rfl ?_
        refine v_getR (pc := 70) (q := 8) zk10 ly_0 rfl ry_0_8 tw_1034 dX10_findWays_70 ?_
        refine v_iload_n (pc := 73) dX10_findWays_73 rfl ?_
        refine v_iald (pc := 74) ly_7 dX10_findWays_74 (fun x2 => ?_)
        refine v_iload (pc := 75) dX10_findWays_75 rfl ?_
        refine v_callV (pc := 77) (As := [.int x2, .int v4]) (cMd_lineOf l G x2 v4 M) zc_X10_lineOf zk10 rfl ly_0 tw_1168 (by decide) (Nat.le_of_ble_eq_true rfl) dX10_findWays_77 (fun r4 M3 => ?_)
        refine v_if_lt (pc := 80) 114 dX10_findWays_80 (by decide) ?_ ?_
        · refine v_iinc (pc := 114) 1 dX10_findWays_114 rfl (by decide) (by decide) ?_
          refine v_goto (pc := 117) 49 dX10_findWays_117 (by decide) ?_
          exact v_sub (ih v2 v3 (v4 + 1) M3) rfl
        · refine v_aload_n (pc := 83) dX10_findWays_83 rfl ?_
          refine v_getR (pc := 84) (q := 18) zk10 ly_0 rfl ry_0_18 tw_1044 dX10_findWays_84 ?_
          refine v_iload (pc := 87) dX10_findWays_87 rfl ?_
          refine v_aload_n (pc := 89) dX10_findWays_89 rfl ?_
          refine v_getR (pc := 90) (q := 18) zk10 ly_0 rfl ry_0_18 tw_1044 dX10_findWays_90 ?_
          refine v_aload_n (pc := 93) dX10_findWays_93 rfl ?_
          refine v_getR (pc := 94) (q := 8) zk10 ly_0 rfl ry_0_8 tw_1034 dX10_findWays_94 ?_
          refine v_iload_n (pc := 97) dX10_findWays_97 rfl ?_
          refine v_iald (pc := 98) ly_7 dX10_findWays_98 (fun x5 => ?_)
          refine v_iald (pc := 99) ly_15 dX10_findWays_99 (fun x6 => ?_)
          refine v_iconst (pc := 100) 1 dX10_findWays_100 (by decide) ?_
          refine v_iadd (pc := 101) dX10_findWays_101 ?_
          refine v_iast (pc := 102) ly_15 dX10_findWays_102 (fun M7 => ?_)
          refine v_aload_n (pc := 103) dX10_findWays_103 rfl ?_
          refine v_getR (pc := 104) (q := 8) zk10 ly_0 rfl ry_0_8 tw_1034 dX10_findWays_104 ?_
          refine v_iload_n (pc := 107) dX10_findWays_107 rfl ?_
          refine v_iload (pc := 108) dX10_findWays_108 rfl ?_
          refine v_iast (pc := 110) ly_7 dX10_findWays_110 (fun M8 => ?_)
          refine v_iinc (pc := 111) 1 dX10_findWays_111 rfl (by decide) (by decide) ?_
          refine v_iinc (pc := 114) 1 dX10_findWays_114 rfl (by decide) (by decide) ?_
          refine v_goto (pc := 117) 49 dX10_findWays_117 (by decide) ?_
          exact v_sub (ih (v2 + 1) v3 (v4 + 1) M8) rfl
theorem wMd_findWays_41 (l : Launch) (G : zG) : ∀ (fuel : Nat) (v2 : Int32) (v3 : Int32) (M : zM), zV eV l G zLY zRY 2 yX10_findWays cX10_findWays 5 none 41 [(0, .ref 0), (2, .int v2), (3, .int v3)] [] M (fMd_findWays_41 fuel v2 v3 M) := by
  intro fuel
  induction fuel with
  | zero => intro v2 v3 M; exact v_none
  | succ fuel ih =>
    intro v2 v3 M
    rw [fMd_findWays_41]
    refine v_iload_n (pc := 41) dX10_findWays_41 rfl ?_
    refine v_iload_n (pc := 42) dX10_findWays_42 rfl ?_
    refine v_icmp_ge (pc := 43) 126 dX10_findWays_43 (by decide) ?_ ?_
    · exact v_vret (pc := 126) dX10_findWays_126
    · refine v_iconst (pc := 46) 0 dX10_findWays_46 (by decide) ?_
      refine v_istore (pc := 47) dX10_findWays_47 (by decide) ?_
      exact v_sub (wMd_findWays_49 l G (fMd_findWays_41 fuel) ih FU v2 v3 0 M) rfl
theorem wMd_findWays_2 (l : Launch) (G : zG) : ∀ (fuel : Nat) (v1 : Int32) (v2 : Int32) (M : zM), zV eV l G zLY zRY 2 yX10_findWays cX10_findWays 5 none 2 [(0, .ref 0), (1, .int v1), (2, .int v2)] [] M (fMd_findWays_2 fuel v1 v2 M) := by
  intro fuel
  induction fuel with
  | zero => intro v1 v2 M; exact v_none
  | succ fuel ih =>
    intro v1 v2 M
    rw [fMd_findWays_2]
    refine v_iload_n (pc := 2) dX10_findWays_2 rfl ?_
    refine v_aload_n (pc := 3) dX10_findWays_3 rfl ?_
    refine v_getI (pc := 4) (q := 0) zk10 ly_0 rfl tw_1026 dX10_findWays_4 ?_
    refine v_icmp_ge (pc := 7) 23 dX10_findWays_7 (by decide) ?_ ?_
    · refine v_aload_n (pc := 23) dX10_findWays_23 rfl ?_
      refine v_getR (pc := 24) (q := 18) zk10 ly_0 rfl ry_0_18 tw_1044 dX10_findWays_24 ?_
      refine v_iload_n (pc := 27) dX10_findWays_27 rfl ?_
      refine v_iconst (pc := 28) 0 dX10_findWays_28 (by decide) ?_
      refine v_iast (pc := 29) ly_15 dX10_findWays_29 (fun M1 => ?_)
      refine v_aload_n (pc := 30) dX10_findWays_30 rfl ?_
      refine v_getR (pc := 31) (q := 8) zk10 ly_0 rfl ry_0_8 tw_1034 dX10_findWays_31 ?_
      refine v_iconst (pc := 34) 0 dX10_findWays_34 (by decide) ?_
      refine v_iload_n (pc := 35) dX10_findWays_35 rfl ?_
      refine v_iast (pc := 36) ly_7 dX10_findWays_36 (fun M2 => ?_)
      refine v_iconst (pc := 37) 1 dX10_findWays_37 (by decide) ?_
      refine v_istore_n (pc := 38) dX10_findWays_38 (by decide) ?_
      refine v_iconst (pc := 39) 0 dX10_findWays_39 (by decide) ?_
      refine v_istore_n (pc := 40) dX10_findWays_40 (by decide) ?_
      exact v_sub (wMd_findWays_41 l G FU 1 0 M2) rfl
    · refine v_aload_n (pc := 10) dX10_findWays_10 rfl ?_
      refine v_getR (pc := 11) (q := 18) zk10 ly_0 rfl ry_0_18 tw_1044 dX10_findWays_11 ?_
      refine v_iload_n (pc := 14) dX10_findWays_14 rfl ?_
      refine v_iconst (pc := 15) (-1) dX10_findWays_15 (by decide) ?_
      refine v_iast (pc := 16) ly_15 dX10_findWays_16 (fun M3 => ?_)
      refine v_iinc (pc := 17) 1 dX10_findWays_17 rfl (by decide) (by decide) ?_
      refine v_goto (pc := 20) 2 dX10_findWays_20 (by decide) ?_
      exact v_sub (ih v1 (v2 + 1) M3) rfl
theorem wMd_findWays (l : Launch) (G : zG) (v1 : Int32) (M : zM) : zV eV l G zLY zRY 2 yX10_findWays cX10_findWays 5 none 0 [(0, .ref 0), (1, .int v1)] [] M (fMd_findWays v1 M) := by
  rw [fMd_findWays]
  refine v_iconst (pc := 0) 0 dX10_findWays_0 (by decide) ?_
  refine v_istore_n (pc := 1) dX10_findWays_1 (by decide) ?_
  exact v_sub (wMd_findWays_2 l G FU v1 0 M) rfl
theorem cMd_findWays (l : Launch) (G : zG) (v1 : Int32) (M : zM) : zC eV l G zLY zRY 2 yX10_findWays cX10_findWays 5 none [.ref 0, .int v1] M (fMd_findWays v1 M) := zC.of (by decide) (Nat.le_of_ble_eq_true rfl) (v_sub (wMd_findWays l G v1 M) rfl)
theorem dX10_stretch_0 : decode cX10_stretch 0 = .ok (.iload_n 1, 1) := by decide +kernel
theorem dX10_stretch_1 : decode cX10_stretch 1 = .ok (.i2l, 1) := by decide +kernel
theorem dX10_stretch_2 : decode cX10_stretch 2 = .ok (.lconst 0, 1) := by decide +kernel
theorem dX10_stretch_3 : decode cX10_stretch 3 = .ok (.ldc2_w 186, 3) := by decide +kernel
theorem dX10_stretch_6 : decode cX10_stretch 6 = .ok (.invokestatic 102, 3) := by decide +kernel
theorem dX10_stretch_9 : decode cX10_stretch 9 = .ok (.ifCond .ne 7, 3) := by decide +kernel
theorem dX10_stretch_12 : decode cX10_stretch 12 = .ok (.sipush (-1002), 3) := by decide +kernel
theorem dX10_stretch_15 : decode cX10_stretch 15 = .ok (.ireturn, 1) := by decide +kernel
theorem dX10_stretch_16 : decode cX10_stretch 16 = .ok (.aload_n 0, 1) := by decide +kernel
theorem dX10_stretch_17 : decode cX10_stretch 17 = .ok (.iconst 0, 1) := by decide +kernel
theorem dX10_stretch_18 : decode cX10_stretch 18 = .ok (.invokevirtual 188, 3) := by decide +kernel
theorem dX10_stretch_21 : decode cX10_stretch 21 = .ok (.iconst 0, 1) := by decide +kernel
theorem dX10_stretch_22 : decode cX10_stretch 22 = .ok (.istore_n 2, 1) := by decide +kernel
theorem dX10_stretch_23 : decode cX10_stretch 23 = .ok (.iconst 1, 1) := by decide +kernel
theorem dX10_stretch_24 : decode cX10_stretch 24 = .ok (.istore_n 3, 1) := by decide +kernel
theorem dX10_stretch_25 : decode cX10_stretch 25 = .ok (.iconst (-1), 1) := by decide +kernel
theorem dX10_stretch_26 : decode cX10_stretch 26 = .ok (.istore 4, 2) := by decide +kernel
theorem dX10_stretch_28 : decode cX10_stretch 28 = .ok (.iconst (-1), 1) := by decide +kernel
theorem dX10_stretch_29 : decode cX10_stretch 29 = .ok (.istore 5, 2) := by decide +kernel
theorem dX10_stretch_31 : decode cX10_stretch 31 = .ok (.iconst 0, 1) := by decide +kernel
theorem dX10_stretch_32 : decode cX10_stretch 32 = .ok (.istore 6, 2) := by decide +kernel
theorem dX10_stretch_34 : decode cX10_stretch 34 = .ok (.iload 6, 2) := by decide +kernel
theorem dX10_stretch_36 : decode cX10_stretch 36 = .ok (.aload_n 0, 1) := by decide +kernel
theorem dX10_stretch_37 : decode cX10_stretch 37 = .ok (.getfield 99, 3) := by decide +kernel
theorem dX10_stretch_40 : decode cX10_stretch 40 = .ok (.if_icmp .ge 109, 3) := by decide +kernel
theorem dX10_stretch_43 : decode cX10_stretch 43 = .ok (.aload_n 0, 1) := by decide +kernel
theorem dX10_stretch_44 : decode cX10_stretch 44 = .ok (.iload 6, 2) := by decide +kernel
theorem dX10_stretch_46 : decode cX10_stretch 46 = .ok (.invokevirtual 234, 3) := by decide +kernel
theorem dX10_stretch_49 : decode cX10_stretch 49 = .ok (.iconst 0, 1) := by decide +kernel
theorem dX10_stretch_50 : decode cX10_stretch 50 = .ok (.istore 7, 2) := by decide +kernel
theorem dX10_stretch_52 : decode cX10_stretch 52 = .ok (.iload 7, 2) := by decide +kernel
theorem dX10_stretch_54 : decode cX10_stretch 54 = .ok (.aload_n 0, 1) := by decide +kernel
theorem dX10_stretch_55 : decode cX10_stretch 55 = .ok (.getfield 99, 3) := by decide +kernel
theorem dX10_stretch_58 : decode cX10_stretch 58 = .ok (.if_icmp .ge 85, 3) := by decide +kernel
theorem dX10_stretch_61 : decode cX10_stretch 61 = .ok (.iload 6, 2) := by decide +kernel
theorem dX10_stretch_63 : decode cX10_stretch 63 = .ok (.iload 7, 2) := by decide +kernel
theorem dX10_stretch_65 : decode cX10_stretch 65 = .ok (.if_icmp .eq 13, 3) := by decide +kernel
theorem dX10_stretch_68 : decode cX10_stretch 68 = .ok (.aload_n 0, 1) := by decide +kernel
theorem dX10_stretch_69 : decode cX10_stretch 69 = .ok (.getfield 52, 3) := by decide +kernel
theorem dX10_stretch_72 : decode cX10_stretch 72 = .ok (.iload 7, 2) := by decide +kernel
theorem dX10_stretch_74 : decode cX10_stretch 74 = .ok (.iaload, 1) := by decide +kernel
theorem dX10_stretch_75 : decode cX10_stretch 75 = .ok (.ifCond .ge 7, 3) := by decide +kernel
theorem dX10_stretch_78 : decode cX10_stretch 78 = .ok (.iconst 0, 1) := by decide +kernel
theorem dX10_stretch_79 : decode cX10_stretch 79 = .ok (.goto 11, 3) := by decide +kernel
theorem dX10_stretch_82 : decode cX10_stretch 82 = .ok (.aload_n 0, 1) := by decide +kernel
theorem dX10_stretch_83 : decode cX10_stretch 83 = .ok (.iload 6, 2) := by decide +kernel
theorem dX10_stretch_85 : decode cX10_stretch 85 = .ok (.iload 7, 2) := by decide +kernel
theorem dX10_stretch_87 : decode cX10_stretch 87 = .ok (.invokevirtual 231, 3) := by decide +kernel
theorem dX10_stretch_90 : decode cX10_stretch 90 = .ok (.istore 8, 2) := by decide +kernel
theorem dX10_stretch_92 : decode cX10_stretch 92 = .ok (.iload 8, 2) := by decide +kernel
theorem dX10_stretch_94 : decode cX10_stretch 94 = .ok (.ifCond .le 43, 3) := by decide +kernel
theorem dX10_stretch_97 : decode cX10_stretch 97 = .ok (.iload 4, 2) := by decide +kernel
theorem dX10_stretch_99 : decode cX10_stretch 99 = .ok (.ifCond .lt 19, 3) := by decide +kernel
theorem dX10_stretch_102 : decode cX10_stretch 102 = .ok (.iload 8, 2) := by decide +kernel
theorem dX10_stretch_104 : decode cX10_stretch 104 = .ok (.iload_n 3, 1) := by decide +kernel
theorem dX10_stretch_105 : decode cX10_stretch 105 = .ok (.imul, 1) := by decide +kernel
theorem dX10_stretch_106 : decode cX10_stretch 106 = .ok (.iload_n 2, 1) := by decide +kernel
theorem dX10_stretch_107 : decode cX10_stretch 107 = .ok (.aload_n 0, 1) := by decide +kernel
theorem dX10_stretch_108 : decode cX10_stretch 108 = .ok (.getfield 52, 3) := by decide +kernel
theorem dX10_stretch_111 : decode cX10_stretch 111 = .ok (.iload 7, 2) := by decide +kernel
theorem dX10_stretch_113 : decode cX10_stretch 113 = .ok (.iaload, 1) := by decide +kernel
theorem dX10_stretch_114 : decode cX10_stretch 114 = .ok (.imul, 1) := by decide +kernel
theorem dX10_stretch_115 : decode cX10_stretch 115 = .ok (.if_icmp .le 22, 3) := by decide +kernel
theorem dX10_stretch_118 : decode cX10_stretch 118 = .ok (.iload 8, 2) := by decide +kernel
theorem dX10_stretch_120 : decode cX10_stretch 120 = .ok (.istore_n 2, 1) := by decide +kernel
theorem dX10_stretch_121 : decode cX10_stretch 121 = .ok (.aload_n 0, 1) := by decide +kernel
theorem dX10_stretch_122 : decode cX10_stretch 122 = .ok (.getfield 52, 3) := by decide +kernel
theorem dX10_stretch_125 : decode cX10_stretch 125 = .ok (.iload 7, 2) := by decide +kernel
theorem dX10_stretch_127 : decode cX10_stretch 127 = .ok (.iaload, 1) := by decide +kernel
theorem dX10_stretch_128 : decode cX10_stretch 128 = .ok (.istore_n 3, 1) := by decide +kernel
theorem dX10_stretch_129 : decode cX10_stretch 129 = .ok (.iload 6, 2) := by decide +kernel
theorem dX10_stretch_131 : decode cX10_stretch 131 = .ok (.istore 4, 2) := by decide +kernel
theorem dX10_stretch_133 : decode cX10_stretch 133 = .ok (.iload 7, 2) := by decide +kernel
theorem dX10_stretch_135 : decode cX10_stretch 135 = .ok (.istore 5, 2) := by decide +kernel
theorem dX10_stretch_137 : decode cX10_stretch 137 = .ok (.iinc 7 1, 3) := by decide +kernel
theorem dX10_stretch_140 : decode cX10_stretch 140 = .ok (.goto (-88), 3) := by decide +kernel
theorem dX10_stretch_143 : decode cX10_stretch 143 = .ok (.iinc 6 1, 3) := by decide +kernel
theorem dX10_stretch_146 : decode cX10_stretch 146 = .ok (.goto (-112), 3) := by decide +kernel
theorem dX10_stretch_149 : decode cX10_stretch 149 = .ok (.iload_n 2, 1) := by decide +kernel
theorem dX10_stretch_150 : decode cX10_stretch 150 = .ok (.istore 6, 2) := by decide +kernel
theorem dX10_stretch_152 : decode cX10_stretch 152 = .ok (.iload_n 3, 1) := by decide +kernel
theorem dX10_stretch_153 : decode cX10_stretch 153 = .ok (.istore 7, 2) := by decide +kernel
theorem dX10_stretch_155 : decode cX10_stretch 155 = .ok (.iload 7, 2) := by decide +kernel
theorem dX10_stretch_157 : decode cX10_stretch 157 = .ok (.ifCond .eq 21, 3) := by decide +kernel
theorem dX10_stretch_160 : decode cX10_stretch 160 = .ok (.iload 6, 2) := by decide +kernel
theorem dX10_stretch_162 : decode cX10_stretch 162 = .ok (.iload 7, 2) := by decide +kernel
theorem dX10_stretch_164 : decode cX10_stretch 164 = .ok (.irem, 1) := by decide +kernel
theorem dX10_stretch_165 : decode cX10_stretch 165 = .ok (.istore 8, 2) := by decide +kernel
theorem dX10_stretch_167 : decode cX10_stretch 167 = .ok (.iload 7, 2) := by decide +kernel
theorem dX10_stretch_169 : decode cX10_stretch 169 = .ok (.istore 6, 2) := by decide +kernel
theorem dX10_stretch_171 : decode cX10_stretch 171 = .ok (.iload 8, 2) := by decide +kernel
theorem dX10_stretch_173 : decode cX10_stretch 173 = .ok (.istore 7, 2) := by decide +kernel
theorem dX10_stretch_175 : decode cX10_stretch 175 = .ok (.goto (-20), 3) := by decide +kernel
theorem dX10_stretch_178 : decode cX10_stretch 178 = .ok (.iload_n 1, 1) := by decide +kernel
theorem dX10_stretch_179 : decode cX10_stretch 179 = .ok (.ifCond .ne 10, 3) := by decide +kernel
theorem dX10_stretch_182 : decode cX10_stretch 182 = .ok (.iload_n 2, 1) := by decide +kernel
theorem dX10_stretch_183 : decode cX10_stretch 183 = .ok (.iload 6, 2) := by decide +kernel
theorem dX10_stretch_185 : decode cX10_stretch 185 = .ok (.idiv, 1) := by decide +kernel
theorem dX10_stretch_186 : decode cX10_stretch 186 = .ok (.goto 27, 3) := by decide +kernel
theorem dX10_stretch_189 : decode cX10_stretch 189 = .ok (.iload_n 1, 1) := by decide +kernel
theorem dX10_stretch_190 : decode cX10_stretch 190 = .ok (.iconst 1, 1) := by decide +kernel
theorem dX10_stretch_191 : decode cX10_stretch 191 = .ok (.if_icmp .ne 10, 3) := by decide +kernel
theorem dX10_stretch_194 : decode cX10_stretch 194 = .ok (.iload_n 3, 1) := by decide +kernel
theorem dX10_stretch_195 : decode cX10_stretch 195 = .ok (.iload 6, 2) := by decide +kernel
theorem dX10_stretch_197 : decode cX10_stretch 197 = .ok (.idiv, 1) := by decide +kernel
theorem dX10_stretch_198 : decode cX10_stretch 198 = .ok (.goto 15, 3) := by decide +kernel
theorem dX10_stretch_201 : decode cX10_stretch 201 = .ok (.iload_n 1, 1) := by decide +kernel
theorem dX10_stretch_202 : decode cX10_stretch 202 = .ok (.iconst 2, 1) := by decide +kernel
theorem dX10_stretch_203 : decode cX10_stretch 203 = .ok (.if_icmp .ne 8, 3) := by decide +kernel
theorem dX10_stretch_206 : decode cX10_stretch 206 = .ok (.iload 4, 2) := by decide +kernel
theorem dX10_stretch_208 : decode cX10_stretch 208 = .ok (.goto 5, 3) := by decide +kernel
theorem dX10_stretch_211 : decode cX10_stretch 211 = .ok (.iload 5, 2) := by decide +kernel
theorem dX10_stretch_213 : decode cX10_stretch 213 = .ok (.ireturn, 1) := by decide +kernel
theorem wMd_stretch_118 (l : Launch) (G : zG) (k52 : Int32 → Int32 → Int32 → Int32 → Int32 → Int32 → Int32 → zM → Option (Int32 × zM)) (hk52 : ∀ (v1 : Int32) (v2 : Int32) (v3 : Int32) (v4 : Int32) (v5 : Int32) (v6 : Int32) (v7 : Int32) (M : zM), zV eI l G zLY zRY 6 yX10_stretch cX10_stretch 9 (some .int) 52 [(0, .ref 0), (1, .int v1), (2, .int v2), (3, .int v3), (4, .int v4), (5, .int v5), (6, .int v6), (7, .int v7)] [] M (k52 v1 v2 v3 v4 v5 v6 v7 M)) (v1 : Int32) (v6 : Int32) (v7 : Int32) (v8 : Int32) (M : zM) : zV eI l G zLY zRY 6 yX10_stretch cX10_stretch 9 (some .int) 118 [(0, .ref 0), (1, .int v1), (6, .int v6), (7, .int v7), (8, .int v8)] [] M (fMd_stretch_118 k52 v1 v6 v7 v8 M) := by
  rw [fMd_stretch_118]
  refine v_iload (pc := 118) dX10_stretch_118 rfl ?_
  refine v_istore_n (pc := 120) dX10_stretch_120 (by decide) ?_
  refine v_aload_n (pc := 121) dX10_stretch_121 rfl ?_
  refine v_getR (pc := 122) (q := 18) zk10 ly_0 rfl ry_0_18 tw_1044 dX10_stretch_122 ?_
  refine v_iload (pc := 125) dX10_stretch_125 rfl ?_
  refine v_iald (pc := 127) ly_15 dX10_stretch_127 (fun x1 => ?_)
  refine v_istore_n (pc := 128) dX10_stretch_128 (by decide) ?_
  refine v_iload (pc := 129) dX10_stretch_129 rfl ?_
  refine v_istore (pc := 131) dX10_stretch_131 (by decide) ?_
  refine v_iload (pc := 133) dX10_stretch_133 rfl ?_
  refine v_istore (pc := 135) dX10_stretch_135 (by decide) ?_
  refine v_iinc (pc := 137) 1 dX10_stretch_137 rfl (by decide) (by decide) ?_
  refine v_goto (pc := 140) 52 dX10_stretch_140 (by decide) ?_
  exact v_sub (hk52 v1 v8 x1 v6 v7 v6 (v7 + 1) M) rfl
theorem wMd_stretch_90 (l : Launch) (G : zG) (k52 : Int32 → Int32 → Int32 → Int32 → Int32 → Int32 → Int32 → zM → Option (Int32 × zM)) (hk52 : ∀ (v1 : Int32) (v2 : Int32) (v3 : Int32) (v4 : Int32) (v5 : Int32) (v6 : Int32) (v7 : Int32) (M : zM), zV eI l G zLY zRY 6 yX10_stretch cX10_stretch 9 (some .int) 52 [(0, .ref 0), (1, .int v1), (2, .int v2), (3, .int v3), (4, .int v4), (5, .int v5), (6, .int v6), (7, .int v7)] [] M (k52 v1 v2 v3 v4 v5 v6 v7 M)) (v1 : Int32) (v2 : Int32) (v3 : Int32) (v4 : Int32) (v5 : Int32) (v6 : Int32) (v7 : Int32) (vs0 : Int32) (M : zM) : zV eI l G zLY zRY 6 yX10_stretch cX10_stretch 9 (some .int) 90 [(0, .ref 0), (1, .int v1), (2, .int v2), (3, .int v3), (4, .int v4), (5, .int v5), (6, .int v6), (7, .int v7)] [.int vs0] M (fMd_stretch_90 k52 v1 v2 v3 v4 v5 v6 v7 vs0 M) := by
  rw [fMd_stretch_90]
  refine v_istore (pc := 90) dX10_stretch_90 (by decide) ?_
  refine v_iload (pc := 92) dX10_stretch_92 rfl ?_
  refine v_if_le (pc := 94) 137 dX10_stretch_94 (by decide) ?_ ?_
  · refine v_iinc (pc := 137) 1 dX10_stretch_137 rfl (by decide) (by decide) ?_
    refine v_goto (pc := 140) 52 dX10_stretch_140 (by decide) ?_
    exact v_sub (hk52 v1 v2 v3 v4 v5 v6 (v7 + 1) M) rfl
  · refine v_iload (pc := 97) dX10_stretch_97 rfl ?_
    refine v_if_lt (pc := 99) 118 dX10_stretch_99 (by decide) ?_ ?_
    · exact v_sub (wMd_stretch_118 l G k52 hk52 v1 v6 v7 vs0 M) rfl
    · refine v_iload (pc := 102) dX10_stretch_102 rfl ?_
      refine v_iload_n (pc := 104) dX10_stretch_104 rfl ?_
      refine v_imul (pc := 105) dX10_stretch_105 ?_
      refine v_iload_n (pc := 106) dX10_stretch_106 rfl ?_
      refine v_aload_n (pc := 107) dX10_stretch_107 rfl ?_
      refine v_getR (pc := 108) (q := 18) zk10 ly_0 rfl ry_0_18 tw_1044 dX10_stretch_108 ?_
      refine v_iload (pc := 111) dX10_stretch_111 rfl ?_
      refine v_iald (pc := 113) ly_15 dX10_stretch_113 (fun x1 => ?_)
      refine v_imul (pc := 114) dX10_stretch_114 ?_
      refine v_icmp_le (pc := 115) 137 dX10_stretch_115 (by decide) ?_ ?_
      · refine v_iinc (pc := 137) 1 dX10_stretch_137 rfl (by decide) (by decide) ?_
        refine v_goto (pc := 140) 52 dX10_stretch_140 (by decide) ?_
        exact v_sub (hk52 v1 v2 v3 v4 v5 v6 (v7 + 1) M) rfl
      · exact v_sub (wMd_stretch_118 l G k52 hk52 v1 v6 v7 vs0 M) rfl
theorem wMd_stretch_52 (l : Launch) (G : zG) (k34 : Int32 → Int32 → Int32 → Int32 → Int32 → Int32 → zM → Option (Int32 × zM)) (hk34 : ∀ (v1 : Int32) (v2 : Int32) (v3 : Int32) (v4 : Int32) (v5 : Int32) (v6 : Int32) (M : zM), zV eI l G zLY zRY 6 yX10_stretch cX10_stretch 9 (some .int) 34 [(0, .ref 0), (1, .int v1), (2, .int v2), (3, .int v3), (4, .int v4), (5, .int v5), (6, .int v6)] [] M (k34 v1 v2 v3 v4 v5 v6 M)) : ∀ (fuel : Nat) (v1 : Int32) (v2 : Int32) (v3 : Int32) (v4 : Int32) (v5 : Int32) (v6 : Int32) (v7 : Int32) (M : zM), zV eI l G zLY zRY 6 yX10_stretch cX10_stretch 9 (some .int) 52 [(0, .ref 0), (1, .int v1), (2, .int v2), (3, .int v3), (4, .int v4), (5, .int v5), (6, .int v6), (7, .int v7)] [] M (fMd_stretch_52 k34 fuel v1 v2 v3 v4 v5 v6 v7 M) := by
  intro fuel
  induction fuel with
  | zero => intro v1 v2 v3 v4 v5 v6 v7 M; exact v_none
  | succ fuel ih =>
    intro v1 v2 v3 v4 v5 v6 v7 M
    rw [fMd_stretch_52]
    refine v_iload (pc := 52) dX10_stretch_52 rfl ?_
    refine v_aload_n (pc := 54) dX10_stretch_54 rfl ?_
    refine v_getI (pc := 55) (q := 0) zk10 ly_0 rfl tw_1026 dX10_stretch_55 ?_
    refine v_icmp_ge (pc := 58) 143 dX10_stretch_58 (by decide) ?_ ?_
    · refine v_iinc (pc := 143) 1 dX10_stretch_143 rfl (by decide) (by decide) ?_
      refine v_goto (pc := 146) 34 dX10_stretch_146 (by decide) ?_
      exact v_sub (hk34 v1 v2 v3 v4 v5 (v6 + 1) M) rfl
    · refine v_iload (pc := 61) dX10_stretch_61 rfl ?_
      refine v_iload (pc := 63) dX10_stretch_63 rfl ?_
      refine v_icmp_eq (pc := 65) 78 dX10_stretch_65 (by decide) ?_ ?_
      · refine v_iconst (pc := 78) 0 dX10_stretch_78 (by decide) ?_
        refine v_goto (pc := 79) 90 dX10_stretch_79 (by decide) ?_
        exact v_sub (wMd_stretch_90 l G (fMd_stretch_52 k34 fuel) ih v1 v2 v3 v4 v5 v6 v7 0 M) rfl
      · refine v_aload_n (pc := 68) dX10_stretch_68 rfl ?_
        refine v_getR (pc := 69) (q := 18) zk10 ly_0 rfl ry_0_18 tw_1044 dX10_stretch_69 ?_
        refine v_iload (pc := 72) dX10_stretch_72 rfl ?_
        refine v_iald (pc := 74) ly_15 dX10_stretch_74 (fun x1 => ?_)
        refine v_if_ge (pc := 75) 82 dX10_stretch_75 (by decide) ?_ ?_
        · refine v_aload_n (pc := 82) dX10_stretch_82 rfl ?_
          refine v_iload (pc := 83) dX10_stretch_83 rfl ?_
          refine v_iload (pc := 85) dX10_stretch_85 rfl ?_
          refine v_callV (pc := 87) (As := [.int v6, .int v7]) (cMd_goesOf l G v6 v7 M) zc_X10_goesOf zk10 rfl ly_0 tw_1353 (by decide) (Nat.le_of_ble_eq_true rfl) dX10_stretch_87 (fun r3 M2 => ?_)
          exact v_sub (wMd_stretch_90 l G (fMd_stretch_52 k34 fuel) ih v1 v2 v3 v4 v5 v6 v7 r3 M2) rfl
        · refine v_iconst (pc := 78) 0 dX10_stretch_78 (by decide) ?_
          refine v_goto (pc := 79) 90 dX10_stretch_79 (by decide) ?_
          exact v_sub (wMd_stretch_90 l G (fMd_stretch_52 k34 fuel) ih v1 v2 v3 v4 v5 v6 v7 0 M) rfl
theorem wMd_stretch_155 (l : Launch) (G : zG) : ∀ (fuel : Nat) (v1 : Int32) (v2 : Int32) (v3 : Int32) (v4 : Int32) (v5 : Int32) (v6 : Int32) (v7 : Int32) (M : zM), zV eI l G zLY zRY 6 yX10_stretch cX10_stretch 9 (some .int) 155 [(1, .int v1), (2, .int v2), (3, .int v3), (4, .int v4), (5, .int v5), (6, .int v6), (7, .int v7)] [] M (fMd_stretch_155 fuel v1 v2 v3 v4 v5 v6 v7 M) := by
  intro fuel
  induction fuel with
  | zero => intro v1 v2 v3 v4 v5 v6 v7 M; exact v_none
  | succ fuel ih =>
    intro v1 v2 v3 v4 v5 v6 v7 M
    rw [fMd_stretch_155]
    refine v_iload (pc := 155) dX10_stretch_155 rfl ?_
    refine v_if_eq (pc := 157) 178 dX10_stretch_157 (by decide) ?_ ?_
    · refine v_iload_n (pc := 178) dX10_stretch_178 rfl ?_
      refine v_if_ne (pc := 179) 189 dX10_stretch_179 (by decide) ?_ ?_
      · refine v_iload_n (pc := 189) dX10_stretch_189 rfl ?_
        refine v_iconst (pc := 190) 1 dX10_stretch_190 (by decide) ?_
        refine v_icmp_ne (pc := 191) 201 dX10_stretch_191 (by decide) ?_ ?_
        · refine v_iload_n (pc := 201) dX10_stretch_201 rfl ?_
          refine v_iconst (pc := 202) 2 dX10_stretch_202 (by decide) ?_
          refine v_icmp_ne (pc := 203) 211 dX10_stretch_203 (by decide) ?_ ?_
          · refine v_iload (pc := 211) dX10_stretch_211 rfl ?_
            exact v_iret (pc := 213) dX10_stretch_213
          · refine v_iload (pc := 206) dX10_stretch_206 rfl ?_
            refine v_goto (pc := 208) 213 dX10_stretch_208 (by decide) ?_
            exact v_iret (pc := 213) dX10_stretch_213
        · refine v_iload_n (pc := 194) dX10_stretch_194 rfl ?_
          refine v_iload (pc := 195) dX10_stretch_195 rfl ?_
          refine v_idiv (pc := 197) dX10_stretch_197 (fun z1 => ?_)
          refine v_goto (pc := 198) 213 dX10_stretch_198 (by decide) ?_
          exact v_iret (pc := 213) dX10_stretch_213
      · refine v_iload_n (pc := 182) dX10_stretch_182 rfl ?_
        refine v_iload (pc := 183) dX10_stretch_183 rfl ?_
        refine v_idiv (pc := 185) dX10_stretch_185 (fun z2 => ?_)
        refine v_goto (pc := 186) 213 dX10_stretch_186 (by decide) ?_
        exact v_iret (pc := 213) dX10_stretch_213
    · refine v_iload (pc := 160) dX10_stretch_160 rfl ?_
      refine v_iload (pc := 162) dX10_stretch_162 rfl ?_
      refine v_irem (pc := 164) dX10_stretch_164 (fun z3 => ?_)
      refine v_istore (pc := 165) dX10_stretch_165 (by decide) ?_
      refine v_iload (pc := 167) dX10_stretch_167 rfl ?_
      refine v_istore (pc := 169) dX10_stretch_169 (by decide) ?_
      refine v_iload (pc := 171) dX10_stretch_171 rfl ?_
      refine v_istore (pc := 173) dX10_stretch_173 (by decide) ?_
      refine v_goto (pc := 175) 155 dX10_stretch_175 (by decide) ?_
      exact v_sub (ih v1 v2 v3 v4 v5 v7 z3 M) rfl
theorem wMd_stretch_34 (l : Launch) (G : zG) : ∀ (fuel : Nat) (v1 : Int32) (v2 : Int32) (v3 : Int32) (v4 : Int32) (v5 : Int32) (v6 : Int32) (M : zM), zV eI l G zLY zRY 6 yX10_stretch cX10_stretch 9 (some .int) 34 [(0, .ref 0), (1, .int v1), (2, .int v2), (3, .int v3), (4, .int v4), (5, .int v5), (6, .int v6)] [] M (fMd_stretch_34 fuel v1 v2 v3 v4 v5 v6 M) := by
  intro fuel
  induction fuel with
  | zero => intro v1 v2 v3 v4 v5 v6 M; exact v_none
  | succ fuel ih =>
    intro v1 v2 v3 v4 v5 v6 M
    rw [fMd_stretch_34]
    refine v_iload (pc := 34) dX10_stretch_34 rfl ?_
    refine v_aload_n (pc := 36) dX10_stretch_36 rfl ?_
    refine v_getI (pc := 37) (q := 0) zk10 ly_0 rfl tw_1026 dX10_stretch_37 ?_
    refine v_icmp_ge (pc := 40) 149 dX10_stretch_40 (by decide) ?_ ?_
    · refine v_iload_n (pc := 149) dX10_stretch_149 rfl ?_
      refine v_istore (pc := 150) dX10_stretch_150 (by decide) ?_
      refine v_iload_n (pc := 152) dX10_stretch_152 rfl ?_
      refine v_istore (pc := 153) dX10_stretch_153 (by decide) ?_
      exact v_sub (wMd_stretch_155 l G FU v1 v2 v3 v4 v5 v2 v3 M) rfl
    · refine v_aload_n (pc := 43) dX10_stretch_43 rfl ?_
      refine v_iload (pc := 44) dX10_stretch_44 rfl ?_
      refine v_callV (pc := 46) (As := [.int v6]) (cMd_findWays l G v6 M) zc_X10_findWays zk10 rfl ly_0 tw_1361 (by decide) (Nat.le_of_ble_eq_true rfl) dX10_stretch_46 (fun _ M1 => ?_)
      skip
      refine v_iconst (pc := 49) 0 dX10_stretch_49 (by decide) ?_
      refine v_istore (pc := 50) dX10_stretch_50 (by decide) ?_
      exact v_sub (wMd_stretch_52 l G (fMd_stretch_34 fuel) ih FU v1 v2 v3 v4 v5 v6 0 M1) rfl
theorem wMd_stretch (l : Launch) (G : zG) (v1 : Int32) (M : zM) : zV eI l G zLY zRY 6 yX10_stretch cX10_stretch 9 (some .int) 0 [(0, .ref 0), (1, .int v1)] [] M (fMd_stretch v1 M) := by
  rw [fMd_stretch]
  refine v_iload_n (pc := 0) dX10_stretch_0 rfl ?_
  refine v_i2l (pc := 1) dX10_stretch_1 ?_
  refine v_lconst (pc := 2) 0 dX10_stretch_2 (by decide) ?_
  refine v_ldc2 (pc := 3) 3 tw_1231 dX10_stretch_3 ?_
  refine v_callS (pc := 6) (As := [.long v1.toInt64, .long 0, .long 3]) (cMd_in l G v1.toInt64 0 3 M) zc_X10_in tw_1153 (by decide) (Nat.le_of_ble_eq_true rfl) dX10_stretch_6 (fun r2 M1 => ?_)
  refine v_if_ne (pc := 9) 16 dX10_stretch_9 (by decide) ?_ ?_
  · refine v_aload_n (pc := 16) dX10_stretch_16 rfl ?_
    refine v_iconst (pc := 17) 0 dX10_stretch_17 (by decide) ?_
    refine v_callV (pc := 18) (As := [.int 0]) (cMd_findNames l G 0 M1) zc_X10_findNames zk10 rfl ly_0 tw_1232 (by decide) (Nat.le_of_ble_eq_true rfl) dX10_stretch_18 (fun _ M3 => ?_)
    skip
    refine v_iconst (pc := 21) 0 dX10_stretch_21 (by decide) ?_
    refine v_istore_n (pc := 22) dX10_stretch_22 (by decide) ?_
    refine v_iconst (pc := 23) 1 dX10_stretch_23 (by decide) ?_
    refine v_istore_n (pc := 24) dX10_stretch_24 (by decide) ?_
    refine v_iconst (pc := 25) (-1) dX10_stretch_25 (by decide) ?_
    refine v_istore (pc := 26) dX10_stretch_26 (by decide) ?_
    refine v_iconst (pc := 28) (-1) dX10_stretch_28 (by decide) ?_
    refine v_istore (pc := 29) dX10_stretch_29 (by decide) ?_
    refine v_iconst (pc := 31) 0 dX10_stretch_31 (by decide) ?_
    refine v_istore (pc := 32) dX10_stretch_32 (by decide) ?_
    exact v_sub (wMd_stretch_34 l G FU v1 0 1 (-1) (-1) 0 M3) rfl
  · refine v_sipush (pc := 12) (-1002) dX10_stretch_12 (by decide) ?_
    exact v_iret (pc := 15) dX10_stretch_15
theorem cMd_stretch (l : Launch) (G : zG) (v1 : Int32) (M : zM) : zC eI l G zLY zRY 6 yX10_stretch cX10_stretch 9 (some .int) [.ref 0, .int v1] M (fMd_stretch v1 M) := zC.of (by decide) (Nat.le_of_ble_eq_true rfl) (v_sub (wMd_stretch l G v1 M) rfl)
theorem dX10_cut_0 : decode cX10_cut 0 = .ok (.aload_n 0, 1) := by decide +kernel
theorem dX10_cut_1 : decode cX10_cut 1 = .ok (.iload_n 1, 1) := by decide +kernel
theorem dX10_cut_2 : decode cX10_cut 2 = .ok (.invokevirtual 115, 3) := by decide +kernel
theorem dX10_cut_5 : decode cX10_cut 5 = .ok (.ifCond .ne 11, 3) := by decide +kernel
theorem dX10_cut_8 : decode cX10_cut 8 = .ok (.aload_n 0, 1) := by decide +kernel
theorem dX10_cut_9 : decode cX10_cut 9 = .ok (.iload_n 2, 1) := by decide +kernel
theorem dX10_cut_10 : decode cX10_cut 10 = .ok (.invokevirtual 115, 3) := by decide +kernel
theorem dX10_cut_13 : decode cX10_cut 13 = .ok (.ifCond .eq 7, 3) := by decide +kernel
theorem dX10_cut_16 : decode cX10_cut 16 = .ok (.sipush (-1001), 3) := by decide +kernel
theorem dX10_cut_19 : decode cX10_cut 19 = .ok (.ireturn, 1) := by decide +kernel
theorem dX10_cut_20 : decode cX10_cut 20 = .ok (.iload_n 1, 1) := by decide +kernel
theorem dX10_cut_21 : decode cX10_cut 21 = .ok (.iload_n 2, 1) := by decide +kernel
theorem dX10_cut_22 : decode cX10_cut 22 = .ok (.if_icmp .ne 7, 3) := by decide +kernel
theorem dX10_cut_25 : decode cX10_cut 25 = .ok (.sipush (-1003), 3) := by decide +kernel
theorem dX10_cut_28 : decode cX10_cut 28 = .ok (.ireturn, 1) := by decide +kernel
theorem dX10_cut_29 : decode cX10_cut 29 = .ok (.aload_n 0, 1) := by decide +kernel
theorem dX10_cut_30 : decode cX10_cut 30 = .ok (.invokevirtual 159, 3) := by decide +kernel
theorem dX10_cut_33 : decode cX10_cut 33 = .ok (.aload_n 0, 1) := by decide +kernel
theorem dX10_cut_34 : decode cX10_cut 34 = .ok (.iload_n 1, 1) := by decide +kernel
theorem dX10_cut_35 : decode cX10_cut 35 = .ok (.iload_n 2, 1) := by decide +kernel
theorem dX10_cut_36 : decode cX10_cut 36 = .ok (.iconst 0, 1) := by decide +kernel
theorem dX10_cut_37 : decode cX10_cut 37 = .ok (.invokevirtual 203, 3) := by decide +kernel
theorem dX10_cut_40 : decode cX10_cut 40 = .ok (.ifCond .eq 5, 3) := by decide +kernel
theorem dX10_cut_43 : decode cX10_cut 43 = .ok (.iconst 0, 1) := by decide +kernel
theorem dX10_cut_44 : decode cX10_cut 44 = .ok (.ireturn, 1) := by decide +kernel
theorem dX10_cut_45 : decode cX10_cut 45 = .ok (.iconst 1, 1) := by decide +kernel
theorem dX10_cut_46 : decode cX10_cut 46 = .ok (.istore_n 3, 1) := by decide +kernel
theorem dX10_cut_47 : decode cX10_cut 47 = .ok (.iload_n 3, 1) := by decide +kernel
theorem dX10_cut_48 : decode cX10_cut 48 = .ok (.iconst 4, 1) := by decide +kernel
theorem dX10_cut_49 : decode cX10_cut 49 = .ok (.if_icmp .ge 143, 3) := by decide +kernel
theorem dX10_cut_52 : decode cX10_cut 52 = .ok (.iconst 0, 1) := by decide +kernel
theorem dX10_cut_53 : decode cX10_cut 53 = .ok (.istore 4, 2) := by decide +kernel
theorem dX10_cut_55 : decode cX10_cut 55 = .ok (.iload 4, 2) := by decide +kernel
theorem dX10_cut_57 : decode cX10_cut 57 = .ok (.aload_n 0, 1) := by decide +kernel
theorem dX10_cut_58 : decode cX10_cut 58 = .ok (.getfield 106, 3) := by decide +kernel
theorem dX10_cut_61 : decode cX10_cut 61 = .ok (.if_icmp .ge 125, 3) := by decide +kernel
theorem dX10_cut_64 : decode cX10_cut 64 = .ok (.iload_n 3, 1) := by decide +kernel
theorem dX10_cut_65 : decode cX10_cut 65 = .ok (.iconst 1, 1) := by decide +kernel
theorem dX10_cut_66 : decode cX10_cut 66 = .ok (.if_icmp .le 10, 3) := by decide +kernel
theorem dX10_cut_69 : decode cX10_cut 69 = .ok (.iload 4, 2) := by decide +kernel
theorem dX10_cut_71 : decode cX10_cut 71 = .ok (.iconst 1, 1) := by decide +kernel
theorem dX10_cut_72 : decode cX10_cut 72 = .ok (.iadd, 1) := by decide +kernel
theorem dX10_cut_73 : decode cX10_cut 73 = .ok (.goto 5, 3) := by decide +kernel
theorem dX10_cut_76 : decode cX10_cut 76 = .ok (.iload 4, 2) := by decide +kernel
theorem dX10_cut_78 : decode cX10_cut 78 = .ok (.istore 5, 2) := by decide +kernel
theorem dX10_cut_80 : decode cX10_cut 80 = .ok (.iload 5, 2) := by decide +kernel
theorem dX10_cut_82 : decode cX10_cut 82 = .ok (.iload_n 3, 1) := by decide +kernel
theorem dX10_cut_83 : decode cX10_cut 83 = .ok (.iconst 1, 1) := by decide +kernel
theorem dX10_cut_84 : decode cX10_cut 84 = .ok (.if_icmp .le 10, 3) := by decide +kernel
theorem dX10_cut_87 : decode cX10_cut 87 = .ok (.aload_n 0, 1) := by decide +kernel
theorem dX10_cut_88 : decode cX10_cut 88 = .ok (.getfield 106, 3) := by decide +kernel
theorem dX10_cut_91 : decode cX10_cut 91 = .ok (.goto 7, 3) := by decide +kernel
theorem dX10_cut_94 : decode cX10_cut 94 = .ok (.iload 4, 2) := by decide +kernel
theorem dX10_cut_96 : decode cX10_cut 96 = .ok (.iconst 1, 1) := by decide +kernel
theorem dX10_cut_97 : decode cX10_cut 97 = .ok (.iadd, 1) := by decide +kernel
theorem dX10_cut_98 : decode cX10_cut 98 = .ok (.if_icmp .ge 82, 3) := by decide +kernel
theorem dX10_cut_101 : decode cX10_cut 101 = .ok (.iload_n 3, 1) := by decide +kernel
theorem dX10_cut_102 : decode cX10_cut 102 = .ok (.iconst 2, 1) := by decide +kernel
theorem dX10_cut_103 : decode cX10_cut 103 = .ok (.if_icmp .le 10, 3) := by decide +kernel
theorem dX10_cut_106 : decode cX10_cut 106 = .ok (.iload 5, 2) := by decide +kernel
theorem dX10_cut_108 : decode cX10_cut 108 = .ok (.iconst 1, 1) := by decide +kernel
theorem dX10_cut_109 : decode cX10_cut 109 = .ok (.iadd, 1) := by decide +kernel
theorem dX10_cut_110 : decode cX10_cut 110 = .ok (.goto 5, 3) := by decide +kernel
theorem dX10_cut_113 : decode cX10_cut 113 = .ok (.iload 5, 2) := by decide +kernel
theorem dX10_cut_115 : decode cX10_cut 115 = .ok (.istore 6, 2) := by decide +kernel
theorem dX10_cut_117 : decode cX10_cut 117 = .ok (.iload 6, 2) := by decide +kernel
theorem dX10_cut_119 : decode cX10_cut 119 = .ok (.iload_n 3, 1) := by decide +kernel
theorem dX10_cut_120 : decode cX10_cut 120 = .ok (.iconst 2, 1) := by decide +kernel
theorem dX10_cut_121 : decode cX10_cut 121 = .ok (.if_icmp .le 10, 3) := by decide +kernel
theorem dX10_cut_124 : decode cX10_cut 124 = .ok (.aload_n 0, 1) := by decide +kernel
theorem dX10_cut_125 : decode cX10_cut 125 = .ok (.getfield 106, 3) := by decide +kernel
theorem dX10_cut_128 : decode cX10_cut 128 = .ok (.goto 7, 3) := by decide +kernel
theorem dX10_cut_131 : decode cX10_cut 131 = .ok (.iload 5, 2) := by decide +kernel
theorem dX10_cut_133 : decode cX10_cut 133 = .ok (.iconst 1, 1) := by decide +kernel
theorem dX10_cut_134 : decode cX10_cut 134 = .ok (.iadd, 1) := by decide +kernel
theorem dX10_cut_135 : decode cX10_cut 135 = .ok (.if_icmp .ge 39, 3) := by decide +kernel
theorem dX10_cut_138 : decode cX10_cut 138 = .ok (.iconst 1, 1) := by decide +kernel
theorem dX10_cut_139 : decode cX10_cut 139 = .ok (.iload 4, 2) := by decide +kernel
theorem dX10_cut_141 : decode cX10_cut 141 = .ok (.ishl, 1) := by decide +kernel
theorem dX10_cut_142 : decode cX10_cut 142 = .ok (.iconst 1, 1) := by decide +kernel
theorem dX10_cut_143 : decode cX10_cut 143 = .ok (.iload 5, 2) := by decide +kernel
theorem dX10_cut_145 : decode cX10_cut 145 = .ok (.ishl, 1) := by decide +kernel
theorem dX10_cut_146 : decode cX10_cut 146 = .ok (.ior, 1) := by decide +kernel
theorem dX10_cut_147 : decode cX10_cut 147 = .ok (.iconst 1, 1) := by decide +kernel
theorem dX10_cut_148 : decode cX10_cut 148 = .ok (.iload 6, 2) := by decide +kernel
theorem dX10_cut_150 : decode cX10_cut 150 = .ok (.ishl, 1) := by decide +kernel
theorem dX10_cut_151 : decode cX10_cut 151 = .ok (.ior, 1) := by decide +kernel
theorem dX10_cut_152 : decode cX10_cut 152 = .ok (.istore 7, 2) := by decide +kernel
theorem dX10_cut_154 : decode cX10_cut 154 = .ok (.aload_n 0, 1) := by decide +kernel
theorem dX10_cut_155 : decode cX10_cut 155 = .ok (.iload_n 1, 1) := by decide +kernel
theorem dX10_cut_156 : decode cX10_cut 156 = .ok (.iload_n 2, 1) := by decide +kernel
theorem dX10_cut_157 : decode cX10_cut 157 = .ok (.iload 7, 2) := by decide +kernel
theorem dX10_cut_159 : decode cX10_cut 159 = .ok (.invokevirtual 203, 3) := by decide +kernel
theorem dX10_cut_162 : decode cX10_cut 162 = .ok (.ifCond .eq 6, 3) := by decide +kernel
theorem dX10_cut_165 : decode cX10_cut 165 = .ok (.iload 7, 2) := by decide +kernel
theorem dX10_cut_167 : decode cX10_cut 167 = .ok (.ireturn, 1) := by decide +kernel
theorem dX10_cut_168 : decode cX10_cut 168 = .ok (.iinc 6 1, 3) := by decide +kernel
theorem dX10_cut_171 : decode cX10_cut 171 = .ok (.goto (-54), 3) := by decide +kernel
theorem dX10_cut_174 : decode cX10_cut 174 = .ok (.iinc 5 1, 3) := by decide +kernel
theorem dX10_cut_177 : decode cX10_cut 177 = .ok (.goto (-97), 3) := by decide +kernel
theorem dX10_cut_180 : decode cX10_cut 180 = .ok (.iinc 4 1, 3) := by decide +kernel
theorem dX10_cut_183 : decode cX10_cut 183 = .ok (.goto (-128), 3) := by decide +kernel
theorem dX10_cut_186 : decode cX10_cut 186 = .ok (.iinc 3 1, 3) := by decide +kernel
theorem dX10_cut_189 : decode cX10_cut 189 = .ok (.goto (-142), 3) := by decide +kernel
theorem dX10_cut_192 : decode cX10_cut 192 = .ok (.iconst (-1), 1) := by decide +kernel
theorem dX10_cut_193 : decode cX10_cut 193 = .ok (.ireturn, 1) := by decide +kernel
theorem wMd_cut_135 (l : Launch) (G : zG) (k80 : Int32 → Int32 → Int32 → Int32 → Int32 → zM → Option (Int32 × zM)) (hk80 : ∀ (v1 : Int32) (v2 : Int32) (v3 : Int32) (v4 : Int32) (v5 : Int32) (M : zM), zV eI l G zLY zRY 4 yX10_cut cX10_cut 8 (some .int) 80 [(0, .ref 0), (1, .int v1), (2, .int v2), (3, .int v3), (4, .int v4), (5, .int v5)] [] M (k80 v1 v2 v3 v4 v5 M)) (k117 : Int32 → Int32 → Int32 → Int32 → Int32 → Int32 → zM → Option (Int32 × zM)) (hk117 : ∀ (v1 : Int32) (v2 : Int32) (v3 : Int32) (v4 : Int32) (v5 : Int32) (v6 : Int32) (M : zM), zV eI l G zLY zRY 4 yX10_cut cX10_cut 8 (some .int) 117 [(0, .ref 0), (1, .int v1), (2, .int v2), (3, .int v3), (4, .int v4), (5, .int v5), (6, .int v6)] [] M (k117 v1 v2 v3 v4 v5 v6 M)) (v1 : Int32) (v2 : Int32) (v3 : Int32) (v4 : Int32) (v5 : Int32) (v6 : Int32) (vs0 : Int32) (vs1 : Int32) (M : zM) : zV eI l G zLY zRY 4 yX10_cut cX10_cut 8 (some .int) 135 [(0, .ref 0), (1, .int v1), (2, .int v2), (3, .int v3), (4, .int v4), (5, .int v5), (6, .int v6)] [.int vs0, .int vs1] M (fMd_cut_135 k80 k117 v1 v2 v3 v4 v5 v6 vs0 vs1 M) := by
  rw [fMd_cut_135]
  refine v_icmp_ge (pc := 135) 174 dX10_cut_135 (by decide) ?_ ?_
  · refine v_iinc (pc := 174) 1 dX10_cut_174 rfl (by decide) (by decide) ?_
    refine v_goto (pc := 177) 80 dX10_cut_177 (by decide) ?_
    exact v_sub (hk80 v1 v2 v3 v4 (v5 + 1) M) rfl
  · refine v_iconst (pc := 138) 1 dX10_cut_138 (by decide) ?_
    refine v_iload (pc := 139) dX10_cut_139 rfl ?_
    refine v_ishl (pc := 141) dX10_cut_141 ?_
    refine v_iconst (pc := 142) 1 dX10_cut_142 (by decide) ?_
    refine v_iload (pc := 143) dX10_cut_143 rfl ?_
    refine v_ishl (pc := 145) dX10_cut_145 ?_
    refine v_ior (pc := 146) dX10_cut_146 ?_
    refine v_iconst (pc := 147) 1 dX10_cut_147 (by decide) ?_
    refine v_iload (pc := 148) dX10_cut_148 rfl ?_
    refine v_ishl (pc := 150) dX10_cut_150 ?_
    refine v_ior (pc := 151) dX10_cut_151 ?_
    refine v_istoreL (pc := 152) dX10_cut_152 (by decide) (fun u7_152 => ?_)
    refine v_aload_n (pc := 154) dX10_cut_154 rfl ?_
    refine v_iload_n (pc := 155) dX10_cut_155 rfl ?_
    refine v_iload_n (pc := 156) dX10_cut_156 rfl ?_
    refine v_iload (pc := 157) dX10_cut_157 rfl ?_
    refine v_callV (pc := 159) (As := [.int v1, .int v2, .int u7_152]) (cMd_isParted l G v1 v2 u7_152 M) zc_X10_isParted zk10 rfl ly_0 tw_1288 (by decide) (Nat.le_of_ble_eq_true rfl) dX10_cut_159 (fun r2 M1 => ?_)
    refine v_if_eq (pc := 162) 168 dX10_cut_162 (by decide) ?_ ?_
    · refine v_iinc (pc := 168) 1 dX10_cut_168 rfl (by decide) (by decide) ?_
      refine v_goto (pc := 171) 117 dX10_cut_171 (by decide) ?_
      exact v_sub (hk117 v1 v2 v3 v4 v5 (v6 + 1) M1) rfl
    · refine v_iload (pc := 165) dX10_cut_165 rfl ?_
      exact v_iret (pc := 167) dX10_cut_167
theorem wMd_cut_117 (l : Launch) (G : zG) (k80 : Int32 → Int32 → Int32 → Int32 → Int32 → zM → Option (Int32 × zM)) (hk80 : ∀ (v1 : Int32) (v2 : Int32) (v3 : Int32) (v4 : Int32) (v5 : Int32) (M : zM), zV eI l G zLY zRY 4 yX10_cut cX10_cut 8 (some .int) 80 [(0, .ref 0), (1, .int v1), (2, .int v2), (3, .int v3), (4, .int v4), (5, .int v5)] [] M (k80 v1 v2 v3 v4 v5 M)) : ∀ (fuel : Nat) (v1 : Int32) (v2 : Int32) (v3 : Int32) (v4 : Int32) (v5 : Int32) (v6 : Int32) (M : zM), zV eI l G zLY zRY 4 yX10_cut cX10_cut 8 (some .int) 117 [(0, .ref 0), (1, .int v1), (2, .int v2), (3, .int v3), (4, .int v4), (5, .int v5), (6, .int v6)] [] M (fMd_cut_117 k80 fuel v1 v2 v3 v4 v5 v6 M) := by
  intro fuel
  induction fuel with
  | zero => intro v1 v2 v3 v4 v5 v6 M; exact v_none
  | succ fuel ih =>
    intro v1 v2 v3 v4 v5 v6 M
    rw [fMd_cut_117]
    refine v_iload (pc := 117) dX10_cut_117 rfl ?_
    refine v_iload_n (pc := 119) dX10_cut_119 rfl ?_
    refine v_iconst (pc := 120) 2 dX10_cut_120 (by decide) ?_
    refine v_icmp_le (pc := 121) 131 dX10_cut_121 (by decide) ?_ ?_
    · refine v_iload (pc := 131) dX10_cut_131 rfl ?_
      refine v_iconst (pc := 133) 1 dX10_cut_133 (by decide) ?_
      refine v_iadd (pc := 134) dX10_cut_134 ?_
      exact v_sub (wMd_cut_135 l G k80 hk80 (fMd_cut_117 k80 fuel) ih v1 v2 v3 v4 v5 v6 (v5 + 1) v6 M) rfl
    · refine v_aload_n (pc := 124) dX10_cut_124 rfl ?_
      refine v_getI (pc := 125) (q := 1) zk10 ly_0 rfl tw_1027 dX10_cut_125 ?_
      refine v_goto (pc := 128) 135 dX10_cut_128 (by decide) ?_
      exact v_sub (wMd_cut_135 l G k80 hk80 (fMd_cut_117 k80 fuel) ih v1 v2 v3 v4 v5 v6 (M 0 1) v6 M) rfl
theorem wMd_cut_98 (l : Launch) (G : zG) (k55 : Int32 → Int32 → Int32 → Int32 → zM → Option (Int32 × zM)) (hk55 : ∀ (v1 : Int32) (v2 : Int32) (v3 : Int32) (v4 : Int32) (M : zM), zV eI l G zLY zRY 4 yX10_cut cX10_cut 8 (some .int) 55 [(0, .ref 0), (1, .int v1), (2, .int v2), (3, .int v3), (4, .int v4)] [] M (k55 v1 v2 v3 v4 M)) (k80 : Int32 → Int32 → Int32 → Int32 → Int32 → zM → Option (Int32 × zM)) (hk80 : ∀ (v1 : Int32) (v2 : Int32) (v3 : Int32) (v4 : Int32) (v5 : Int32) (M : zM), zV eI l G zLY zRY 4 yX10_cut cX10_cut 8 (some .int) 80 [(0, .ref 0), (1, .int v1), (2, .int v2), (3, .int v3), (4, .int v4), (5, .int v5)] [] M (k80 v1 v2 v3 v4 v5 M)) (v1 : Int32) (v2 : Int32) (v3 : Int32) (v4 : Int32) (v5 : Int32) (vs0 : Int32) (vs1 : Int32) (M : zM) : zV eI l G zLY zRY 4 yX10_cut cX10_cut 8 (some .int) 98 [(0, .ref 0), (1, .int v1), (2, .int v2), (3, .int v3), (4, .int v4), (5, .int v5)] [.int vs0, .int vs1] M (fMd_cut_98 k55 k80 v1 v2 v3 v4 v5 vs0 vs1 M) := by
  rw [fMd_cut_98]
  refine v_icmp_ge (pc := 98) 180 dX10_cut_98 (by decide) ?_ ?_
  · refine v_iinc (pc := 180) 1 dX10_cut_180 rfl (by decide) (by decide) ?_
    refine v_goto (pc := 183) 55 dX10_cut_183 (by decide) ?_
    exact v_sub (hk55 v1 v2 v3 (v4 + 1) M) rfl
  · refine v_iload_n (pc := 101) dX10_cut_101 rfl ?_
    refine v_iconst (pc := 102) 2 dX10_cut_102 (by decide) ?_
    refine v_icmp_le (pc := 103) 113 dX10_cut_103 (by decide) ?_ ?_
    · refine v_iload (pc := 113) dX10_cut_113 rfl ?_
      refine v_istore (pc := 115) dX10_cut_115 (by decide) ?_
      exact v_sub (wMd_cut_117 l G k80 hk80 FU v1 v2 v3 v4 v5 v5 M) rfl
    · refine v_iload (pc := 106) dX10_cut_106 rfl ?_
      refine v_iconst (pc := 108) 1 dX10_cut_108 (by decide) ?_
      refine v_iadd (pc := 109) dX10_cut_109 ?_
      refine v_goto (pc := 110) 115 dX10_cut_110 (by decide) ?_
      refine v_istoreL (pc := 115) dX10_cut_115 (by decide) (fun u6_115 => ?_)
      exact v_sub (wMd_cut_117 l G k80 hk80 FU v1 v2 v3 v4 v5 u6_115 M) rfl
theorem wMd_cut_80 (l : Launch) (G : zG) (k55 : Int32 → Int32 → Int32 → Int32 → zM → Option (Int32 × zM)) (hk55 : ∀ (v1 : Int32) (v2 : Int32) (v3 : Int32) (v4 : Int32) (M : zM), zV eI l G zLY zRY 4 yX10_cut cX10_cut 8 (some .int) 55 [(0, .ref 0), (1, .int v1), (2, .int v2), (3, .int v3), (4, .int v4)] [] M (k55 v1 v2 v3 v4 M)) : ∀ (fuel : Nat) (v1 : Int32) (v2 : Int32) (v3 : Int32) (v4 : Int32) (v5 : Int32) (M : zM), zV eI l G zLY zRY 4 yX10_cut cX10_cut 8 (some .int) 80 [(0, .ref 0), (1, .int v1), (2, .int v2), (3, .int v3), (4, .int v4), (5, .int v5)] [] M (fMd_cut_80 k55 fuel v1 v2 v3 v4 v5 M) := by
  intro fuel
  induction fuel with
  | zero => intro v1 v2 v3 v4 v5 M; exact v_none
  | succ fuel ih =>
    intro v1 v2 v3 v4 v5 M
    rw [fMd_cut_80]
    refine v_iload (pc := 80) dX10_cut_80 rfl ?_
    refine v_iload_n (pc := 82) dX10_cut_82 rfl ?_
    refine v_iconst (pc := 83) 1 dX10_cut_83 (by decide) ?_
    refine v_icmp_le (pc := 84) 94 dX10_cut_84 (by decide) ?_ ?_
    · refine v_iload (pc := 94) dX10_cut_94 rfl ?_
      refine v_iconst (pc := 96) 1 dX10_cut_96 (by decide) ?_
      refine v_iadd (pc := 97) dX10_cut_97 ?_
      exact v_sub (wMd_cut_98 l G k55 hk55 (fMd_cut_80 k55 fuel) ih v1 v2 v3 v4 v5 (v4 + 1) v5 M) rfl
    · refine v_aload_n (pc := 87) dX10_cut_87 rfl ?_
      refine v_getI (pc := 88) (q := 1) zk10 ly_0 rfl tw_1027 dX10_cut_88 ?_
      refine v_goto (pc := 91) 98 dX10_cut_91 (by decide) ?_
      exact v_sub (wMd_cut_98 l G k55 hk55 (fMd_cut_80 k55 fuel) ih v1 v2 v3 v4 v5 (M 0 1) v5 M) rfl
theorem wMd_cut_55 (l : Launch) (G : zG) (k47 : Int32 → Int32 → Int32 → zM → Option (Int32 × zM)) (hk47 : ∀ (v1 : Int32) (v2 : Int32) (v3 : Int32) (M : zM), zV eI l G zLY zRY 4 yX10_cut cX10_cut 8 (some .int) 47 [(0, .ref 0), (1, .int v1), (2, .int v2), (3, .int v3)] [] M (k47 v1 v2 v3 M)) : ∀ (fuel : Nat) (v1 : Int32) (v2 : Int32) (v3 : Int32) (v4 : Int32) (M : zM), zV eI l G zLY zRY 4 yX10_cut cX10_cut 8 (some .int) 55 [(0, .ref 0), (1, .int v1), (2, .int v2), (3, .int v3), (4, .int v4)] [] M (fMd_cut_55 k47 fuel v1 v2 v3 v4 M) := by
  intro fuel
  induction fuel with
  | zero => intro v1 v2 v3 v4 M; exact v_none
  | succ fuel ih =>
    intro v1 v2 v3 v4 M
    rw [fMd_cut_55]
    refine v_iload (pc := 55) dX10_cut_55 rfl ?_
    refine v_aload_n (pc := 57) dX10_cut_57 rfl ?_
    refine v_getI (pc := 58) (q := 1) zk10 ly_0 rfl tw_1027 dX10_cut_58 ?_
    refine v_icmp_ge (pc := 61) 186 dX10_cut_61 (by decide) ?_ ?_
    · refine v_iinc (pc := 186) 1 dX10_cut_186 rfl (by decide) (by decide) ?_
      refine v_goto (pc := 189) 47 dX10_cut_189 (by decide) ?_
      exact v_sub (hk47 v1 v2 (v3 + 1) M) rfl
    · refine v_iload_n (pc := 64) dX10_cut_64 rfl ?_
      refine v_iconst (pc := 65) 1 dX10_cut_65 (by decide) ?_
      refine v_icmp_le (pc := 66) 76 dX10_cut_66 (by decide) ?_ ?_
      · refine v_iload (pc := 76) dX10_cut_76 rfl ?_
        refine v_istore (pc := 78) dX10_cut_78 (by decide) ?_
        exact v_sub (wMd_cut_80 l G (fMd_cut_55 k47 fuel) ih FU v1 v2 v3 v4 v4 M) rfl
      · refine v_iload (pc := 69) dX10_cut_69 rfl ?_
        refine v_iconst (pc := 71) 1 dX10_cut_71 (by decide) ?_
        refine v_iadd (pc := 72) dX10_cut_72 ?_
        refine v_goto (pc := 73) 78 dX10_cut_73 (by decide) ?_
        refine v_istoreL (pc := 78) dX10_cut_78 (by decide) (fun u5_78 => ?_)
        exact v_sub (wMd_cut_80 l G (fMd_cut_55 k47 fuel) ih FU v1 v2 v3 v4 u5_78 M) rfl
theorem wMd_cut_47 (l : Launch) (G : zG) : ∀ (fuel : Nat) (v1 : Int32) (v2 : Int32) (v3 : Int32) (M : zM), zV eI l G zLY zRY 4 yX10_cut cX10_cut 8 (some .int) 47 [(0, .ref 0), (1, .int v1), (2, .int v2), (3, .int v3)] [] M (fMd_cut_47 fuel v1 v2 v3 M) := by
  intro fuel
  induction fuel with
  | zero => intro v1 v2 v3 M; exact v_none
  | succ fuel ih =>
    intro v1 v2 v3 M
    rw [fMd_cut_47]
    refine v_iload_n (pc := 47) dX10_cut_47 rfl ?_
    refine v_iconst (pc := 48) 4 dX10_cut_48 (by decide) ?_
    refine v_icmp_ge (pc := 49) 192 dX10_cut_49 (by decide) ?_ ?_
    · refine v_iconst (pc := 192) (-1) dX10_cut_192 (by decide) ?_
      exact v_iret (pc := 193) dX10_cut_193
    · refine v_iconst (pc := 52) 0 dX10_cut_52 (by decide) ?_
      refine v_istore (pc := 53) dX10_cut_53 (by decide) ?_
      exact v_sub (wMd_cut_55 l G (fMd_cut_47 fuel) ih FU v1 v2 v3 0 M) rfl
theorem wMd_cut (l : Launch) (G : zG) (v1 : Int32) (v2 : Int32) (M : zM) : zV eI l G zLY zRY 4 yX10_cut cX10_cut 8 (some .int) 0 [(0, .ref 0), (1, .int v1), (2, .int v2)] [] M (fMd_cut v1 v2 M) := by
  rw [fMd_cut]
  refine v_aload_n (pc := 0) dX10_cut_0 rfl ?_
  refine v_iload_n (pc := 1) dX10_cut_1 rfl ?_
  refine v_callV (pc := 2) (As := [.int v1]) (cMd_noPost l G v1 M) zc_X10_noPost zk10 rfl ly_0 tw_1164 (by decide) (Nat.le_of_ble_eq_true rfl) dX10_cut_2 (fun r2 M1 => ?_)
  refine v_if_ne (pc := 5) 16 dX10_cut_5 (by decide) ?_ ?_
  · refine v_sipush (pc := 16) (-1001) dX10_cut_16 (by decide) ?_
    exact v_iret (pc := 19) dX10_cut_19
  · refine v_aload_n (pc := 8) dX10_cut_8 rfl ?_
    refine v_iload_n (pc := 9) dX10_cut_9 rfl ?_
    refine v_callV (pc := 10) (As := [.int v2]) (cMd_noPost l G v2 M1) zc_X10_noPost zk10 rfl ly_0 tw_1164 (by decide) (Nat.le_of_ble_eq_true rfl) dX10_cut_10 (fun r4 M3 => ?_)
    refine v_if_eq (pc := 13) 20 dX10_cut_13 (by decide) ?_ ?_
    · refine v_iload_n (pc := 20) dX10_cut_20 rfl ?_
      refine v_iload_n (pc := 21) dX10_cut_21 rfl ?_
      refine v_icmp_ne (pc := 22) 29 dX10_cut_22 (by decide) ?_ ?_
      · refine v_aload_n (pc := 29) dX10_cut_29 rfl ?_
        refine v_callV (pc := 30) (As := []) (cMd_findTree l G  M3) zc_X10_findTree zk10 rfl ly_0 tw_1184 (by decide) (Nat.le_of_ble_eq_true rfl) dX10_cut_30 (fun _ M5 => ?_)
        skip
        refine v_aload_n (pc := 33) dX10_cut_33 rfl ?_
        refine v_iload_n (pc := 34) dX10_cut_34 rfl ?_
        refine v_iload_n (pc := 35) dX10_cut_35 rfl ?_
        refine v_iconst (pc := 36) 0 dX10_cut_36 (by decide) ?_
        refine v_callV (pc := 37) (As := [.int v1, .int v2, .int 0]) (cMd_isParted l G v1 v2 0 M5) zc_X10_isParted zk10 rfl ly_0 tw_1288 (by decide) (Nat.le_of_ble_eq_true rfl) dX10_cut_37 (fun r7 M6 => ?_)
        refine v_if_eq (pc := 40) 45 dX10_cut_40 (by decide) ?_ ?_
        · refine v_iconst (pc := 45) 1 dX10_cut_45 (by decide) ?_
          refine v_istore_n (pc := 46) dX10_cut_46 (by decide) ?_
          exact v_sub (wMd_cut_47 l G FU v1 v2 1 M6) rfl
        · refine v_iconst (pc := 43) 0 dX10_cut_43 (by decide) ?_
          exact v_iret (pc := 44) dX10_cut_44
      · refine v_sipush (pc := 25) (-1003) dX10_cut_25 (by decide) ?_
        exact v_iret (pc := 28) dX10_cut_28
    · refine v_sipush (pc := 16) (-1001) dX10_cut_16 (by decide) ?_
      exact v_iret (pc := 19) dX10_cut_19
theorem cMd_cut (l : Launch) (G : zG) (v1 : Int32) (v2 : Int32) (M : zM) : zC eI l G zLY zRY 4 yX10_cut cX10_cut 8 (some .int) [.ref 0, .int v1, .int v2] M (fMd_cut v1 v2 M) := zC.of (by decide) (Nat.le_of_ble_eq_true rfl) (v_sub (wMd_cut l G v1 v2 M) rfl)
theorem dX10_oneMore_0 : decode cX10_oneMore 0 = .ok (.iconst 0, 1) := by decide +kernel
theorem dX10_oneMore_1 : decode cX10_oneMore 1 = .ok (.istore_n 3, 1) := by decide +kernel
theorem dX10_oneMore_2 : decode cX10_oneMore 2 = .ok (.iload_n 3, 1) := by decide +kernel
theorem dX10_oneMore_3 : decode cX10_oneMore 3 = .ok (.aload_n 0, 1) := by decide +kernel
theorem dX10_oneMore_4 : decode cX10_oneMore 4 = .ok (.getfield 99, 3) := by decide +kernel
theorem dX10_oneMore_7 : decode cX10_oneMore 7 = .ok (.if_icmp .ge 16, 3) := by decide +kernel
theorem dX10_oneMore_10 : decode cX10_oneMore 10 = .ok (.aload_n 0, 1) := by decide +kernel
theorem dX10_oneMore_11 : decode cX10_oneMore 11 = .ok (.getfield 77, 3) := by decide +kernel
theorem dX10_oneMore_14 : decode cX10_oneMore 14 = .ok (.iload_n 3, 1) := by decide +kernel
theorem dX10_oneMore_15 : decode cX10_oneMore 15 = .ok (.iconst (-1), 1) := by decide +kernel
theorem dX10_oneMore_16 : decode cX10_oneMore 16 = .ok (.iastore, 1) := by decide +kernel
theorem dX10_oneMore_17 : decode cX10_oneMore 17 = .ok (.iinc 3 1, 3) := by decide +kernel
theorem dX10_oneMore_20 : decode cX10_oneMore 20 = .ok (.goto (-18), 3) := by decide +kernel
theorem dX10_oneMore_23 : decode cX10_oneMore 23 = .ok (.aload_n 0, 1) := by decide +kernel
theorem dX10_oneMore_24 : decode cX10_oneMore 24 = .ok (.getfield 28, 3) := by decide +kernel
theorem dX10_oneMore_27 : decode cX10_oneMore 27 = .ok (.iconst 0, 1) := by decide +kernel
theorem dX10_oneMore_28 : decode cX10_oneMore 28 = .ok (.iload_n 1, 1) := by decide +kernel
theorem dX10_oneMore_29 : decode cX10_oneMore 29 = .ok (.iastore, 1) := by decide +kernel
theorem dX10_oneMore_30 : decode cX10_oneMore 30 = .ok (.iconst 1, 1) := by decide +kernel
theorem dX10_oneMore_31 : decode cX10_oneMore 31 = .ok (.istore_n 3, 1) := by decide +kernel
theorem dX10_oneMore_32 : decode cX10_oneMore 32 = .ok (.aload_n 0, 1) := by decide +kernel
theorem dX10_oneMore_33 : decode cX10_oneMore 33 = .ok (.getfield 77, 3) := by decide +kernel
theorem dX10_oneMore_36 : decode cX10_oneMore 36 = .ok (.iload_n 1, 1) := by decide +kernel
theorem dX10_oneMore_37 : decode cX10_oneMore 37 = .ok (.bipush 30, 2) := by decide +kernel
theorem dX10_oneMore_39 : decode cX10_oneMore 39 = .ok (.iastore, 1) := by decide +kernel
theorem dX10_oneMore_40 : decode cX10_oneMore 40 = .ok (.iconst 0, 1) := by decide +kernel
theorem dX10_oneMore_41 : decode cX10_oneMore 41 = .ok (.istore 4, 2) := by decide +kernel
theorem dX10_oneMore_43 : decode cX10_oneMore 43 = .ok (.iload 4, 2) := by decide +kernel
theorem dX10_oneMore_45 : decode cX10_oneMore 45 = .ok (.iload_n 3, 1) := by decide +kernel
theorem dX10_oneMore_46 : decode cX10_oneMore 46 = .ok (.if_icmp .ge 164, 3) := by decide +kernel
theorem dX10_oneMore_49 : decode cX10_oneMore 49 = .ok (.aload_n 0, 1) := by decide +kernel
theorem dX10_oneMore_50 : decode cX10_oneMore 50 = .ok (.getfield 28, 3) := by decide +kernel
theorem dX10_oneMore_53 : decode cX10_oneMore 53 = .ok (.iload 4, 2) := by decide +kernel
theorem dX10_oneMore_55 : decode cX10_oneMore 55 = .ok (.iaload, 1) := by decide +kernel
theorem dX10_oneMore_56 : decode cX10_oneMore 56 = .ok (.istore 5, 2) := by decide +kernel
theorem dX10_oneMore_58 : decode cX10_oneMore 58 = .ok (.iconst 0, 1) := by decide +kernel
theorem dX10_oneMore_59 : decode cX10_oneMore 59 = .ok (.istore 6, 2) := by decide +kernel
theorem dX10_oneMore_61 : decode cX10_oneMore 61 = .ok (.iload 6, 2) := by decide +kernel
theorem dX10_oneMore_63 : decode cX10_oneMore 63 = .ok (.aload_n 0, 1) := by decide +kernel
theorem dX10_oneMore_64 : decode cX10_oneMore 64 = .ok (.getfield 106, 3) := by decide +kernel
theorem dX10_oneMore_67 : decode cX10_oneMore 67 = .ok (.if_icmp .ge 137, 3) := by decide +kernel
theorem dX10_oneMore_70 : decode cX10_oneMore 70 = .ok (.aload_n 0, 1) := by decide +kernel
theorem dX10_oneMore_71 : decode cX10_oneMore 71 = .ok (.getfield 7, 3) := by decide +kernel
theorem dX10_oneMore_74 : decode cX10_oneMore 74 = .ok (.iload 6, 2) := by decide +kernel
theorem dX10_oneMore_76 : decode cX10_oneMore 76 = .ok (.iaload, 1) := by decide +kernel
theorem dX10_oneMore_77 : decode cX10_oneMore 77 = .ok (.iload 5, 2) := by decide +kernel
theorem dX10_oneMore_79 : decode cX10_oneMore 79 = .ok (.if_icmp .ne 18, 3) := by decide +kernel
theorem dX10_oneMore_82 : decode cX10_oneMore 82 = .ok (.aload_n 0, 1) := by decide +kernel
theorem dX10_oneMore_83 : decode cX10_oneMore 83 = .ok (.getfield 74, 3) := by decide +kernel
theorem dX10_oneMore_86 : decode cX10_oneMore 86 = .ok (.iload 6, 2) := by decide +kernel
theorem dX10_oneMore_88 : decode cX10_oneMore 88 = .ok (.iaload, 1) := by decide +kernel
theorem dX10_oneMore_89 : decode cX10_oneMore 89 = .ok (.iconst 1, 1) := by decide +kernel
theorem dX10_oneMore_90 : decode cX10_oneMore 90 = .ok (.if_icmp .eq 7, 3) := by decide +kernel
theorem dX10_oneMore_93 : decode cX10_oneMore 93 = .ok (.iconst 1, 1) := by decide +kernel
theorem dX10_oneMore_94 : decode cX10_oneMore 94 = .ok (.goto 4, 3) := by decide +kernel
theorem dX10_oneMore_97 : decode cX10_oneMore 97 = .ok (.iconst 0, 1) := by decide +kernel
theorem dX10_oneMore_98 : decode cX10_oneMore 98 = .ok (.istore 7, 2) := by decide +kernel
theorem dX10_oneMore_100 : decode cX10_oneMore 100 = .ok (.aload_n 0, 1) := by decide +kernel
theorem dX10_oneMore_101 : decode cX10_oneMore 101 = .ok (.getfield 13, 3) := by decide +kernel
theorem dX10_oneMore_104 : decode cX10_oneMore 104 = .ok (.iload 6, 2) := by decide +kernel
theorem dX10_oneMore_106 : decode cX10_oneMore 106 = .ok (.iaload, 1) := by decide +kernel
theorem dX10_oneMore_107 : decode cX10_oneMore 107 = .ok (.iload 5, 2) := by decide +kernel
theorem dX10_oneMore_109 : decode cX10_oneMore 109 = .ok (.if_icmp .ne 18, 3) := by decide +kernel
theorem dX10_oneMore_112 : decode cX10_oneMore 112 = .ok (.aload_n 0, 1) := by decide +kernel
theorem dX10_oneMore_113 : decode cX10_oneMore 113 = .ok (.getfield 74, 3) := by decide +kernel
theorem dX10_oneMore_116 : decode cX10_oneMore 116 = .ok (.iload 6, 2) := by decide +kernel
theorem dX10_oneMore_118 : decode cX10_oneMore 118 = .ok (.iaload, 1) := by decide +kernel
theorem dX10_oneMore_119 : decode cX10_oneMore 119 = .ok (.iconst 2, 1) := by decide +kernel
theorem dX10_oneMore_120 : decode cX10_oneMore 120 = .ok (.if_icmp .eq 7, 3) := by decide +kernel
theorem dX10_oneMore_123 : decode cX10_oneMore 123 = .ok (.iconst 1, 1) := by decide +kernel
theorem dX10_oneMore_124 : decode cX10_oneMore 124 = .ok (.goto 4, 3) := by decide +kernel
theorem dX10_oneMore_127 : decode cX10_oneMore 127 = .ok (.iconst 0, 1) := by decide +kernel
theorem dX10_oneMore_128 : decode cX10_oneMore 128 = .ok (.istore 8, 2) := by decide +kernel
theorem dX10_oneMore_130 : decode cX10_oneMore 130 = .ok (.iload 7, 2) := by decide +kernel
theorem dX10_oneMore_132 : decode cX10_oneMore 132 = .ok (.ifCond .eq 13, 3) := by decide +kernel
theorem dX10_oneMore_135 : decode cX10_oneMore 135 = .ok (.aload_n 0, 1) := by decide +kernel
theorem dX10_oneMore_136 : decode cX10_oneMore 136 = .ok (.getfield 13, 3) := by decide +kernel
theorem dX10_oneMore_139 : decode cX10_oneMore 139 = .ok (.iload 6, 2) := by decide +kernel
theorem dX10_oneMore_141 : decode cX10_oneMore 141 = .ok (.iaload, 1) := by decide +kernel
theorem dX10_oneMore_142 : decode cX10_oneMore 142 = .ok (.goto 19, 3) := by decide +kernel
theorem dX10_oneMore_145 : decode cX10_oneMore 145 = .ok (.iload 8, 2) := by decide +kernel
theorem dX10_oneMore_147 : decode cX10_oneMore 147 = .ok (.ifCond .eq 13, 3) := by decide +kernel
theorem dX10_oneMore_150 : decode cX10_oneMore 150 = .ok (.aload_n 0, 1) := by decide +kernel
theorem dX10_oneMore_151 : decode cX10_oneMore 151 = .ok (.getfield 7, 3) := by decide +kernel
theorem dX10_oneMore_154 : decode cX10_oneMore 154 = .ok (.iload 6, 2) := by decide +kernel
theorem dX10_oneMore_156 : decode cX10_oneMore 156 = .ok (.iaload, 1) := by decide +kernel
theorem dX10_oneMore_157 : decode cX10_oneMore 157 = .ok (.goto 4, 3) := by decide +kernel
theorem dX10_oneMore_160 : decode cX10_oneMore 160 = .ok (.iconst (-1), 1) := by decide +kernel
theorem dX10_oneMore_161 : decode cX10_oneMore 161 = .ok (.istore 9, 2) := by decide +kernel
theorem dX10_oneMore_163 : decode cX10_oneMore 163 = .ok (.iload 9, 2) := by decide +kernel
theorem dX10_oneMore_165 : decode cX10_oneMore 165 = .ok (.ifCond .lt 33, 3) := by decide +kernel
theorem dX10_oneMore_168 : decode cX10_oneMore 168 = .ok (.aload_n 0, 1) := by decide +kernel
theorem dX10_oneMore_169 : decode cX10_oneMore 169 = .ok (.getfield 77, 3) := by decide +kernel
theorem dX10_oneMore_172 : decode cX10_oneMore 172 = .ok (.iload 9, 2) := by decide +kernel
theorem dX10_oneMore_174 : decode cX10_oneMore 174 = .ok (.iaload, 1) := by decide +kernel
theorem dX10_oneMore_175 : decode cX10_oneMore 175 = .ok (.ifCond .ge 23, 3) := by decide +kernel
theorem dX10_oneMore_178 : decode cX10_oneMore 178 = .ok (.aload_n 0, 1) := by decide +kernel
theorem dX10_oneMore_179 : decode cX10_oneMore 179 = .ok (.getfield 77, 3) := by decide +kernel
theorem dX10_oneMore_182 : decode cX10_oneMore 182 = .ok (.iload 9, 2) := by decide +kernel
theorem dX10_oneMore_184 : decode cX10_oneMore 184 = .ok (.iload 6, 2) := by decide +kernel
theorem dX10_oneMore_186 : decode cX10_oneMore 186 = .ok (.iastore, 1) := by decide +kernel
theorem dX10_oneMore_187 : decode cX10_oneMore 187 = .ok (.aload_n 0, 1) := by decide +kernel
theorem dX10_oneMore_188 : decode cX10_oneMore 188 = .ok (.getfield 28, 3) := by decide +kernel
theorem dX10_oneMore_191 : decode cX10_oneMore 191 = .ok (.iload_n 3, 1) := by decide +kernel
theorem dX10_oneMore_192 : decode cX10_oneMore 192 = .ok (.iload 9, 2) := by decide +kernel
theorem dX10_oneMore_194 : decode cX10_oneMore 194 = .ok (.iastore, 1) := by decide +kernel
theorem dX10_oneMore_195 : decode cX10_oneMore 195 = .ok (.iinc 3 1, 3) := by decide +kernel
theorem dX10_oneMore_198 : decode cX10_oneMore 198 = .ok (.iinc 6 1, 3) := by decide +kernel
theorem dX10_oneMore_201 : decode cX10_oneMore 201 = .ok (.goto (-140), 3) := by decide +kernel
theorem dX10_oneMore_204 : decode cX10_oneMore 204 = .ok (.iinc 4 1, 3) := by decide +kernel
theorem dX10_oneMore_207 : decode cX10_oneMore 207 = .ok (.goto (-164), 3) := by decide +kernel
theorem dX10_oneMore_210 : decode cX10_oneMore 210 = .ok (.aload_n 0, 1) := by decide +kernel
theorem dX10_oneMore_211 : decode cX10_oneMore 211 = .ok (.getfield 77, 3) := by decide +kernel
theorem dX10_oneMore_214 : decode cX10_oneMore 214 = .ok (.iload_n 2, 1) := by decide +kernel
theorem dX10_oneMore_215 : decode cX10_oneMore 215 = .ok (.iaload, 1) := by decide +kernel
theorem dX10_oneMore_216 : decode cX10_oneMore 216 = .ok (.ifCond .ge 5, 3) := by decide +kernel
theorem dX10_oneMore_219 : decode cX10_oneMore 219 = .ok (.iconst 0, 1) := by decide +kernel
theorem dX10_oneMore_220 : decode cX10_oneMore 220 = .ok (.ireturn, 1) := by decide +kernel
theorem dX10_oneMore_221 : decode cX10_oneMore 221 = .ok (.iload_n 2, 1) := by decide +kernel
theorem dX10_oneMore_222 : decode cX10_oneMore 222 = .ok (.istore 4, 2) := by decide +kernel
theorem dX10_oneMore_224 : decode cX10_oneMore 224 = .ok (.iload 4, 2) := by decide +kernel
theorem dX10_oneMore_226 : decode cX10_oneMore 226 = .ok (.iload_n 1, 1) := by decide +kernel
theorem dX10_oneMore_227 : decode cX10_oneMore 227 = .ok (.if_icmp .eq 89, 3) := by decide +kernel
theorem dX10_oneMore_230 : decode cX10_oneMore 230 = .ok (.aload_n 0, 1) := by decide +kernel
theorem dX10_oneMore_231 : decode cX10_oneMore 231 = .ok (.getfield 77, 3) := by decide +kernel
theorem dX10_oneMore_234 : decode cX10_oneMore 234 = .ok (.iload 4, 2) := by decide +kernel
theorem dX10_oneMore_236 : decode cX10_oneMore 236 = .ok (.iaload, 1) := by decide +kernel
theorem dX10_oneMore_237 : decode cX10_oneMore 237 = .ok (.istore 5, 2) := by decide +kernel
theorem dX10_oneMore_239 : decode cX10_oneMore 239 = .ok (.aload_n 0, 1) := by decide +kernel
theorem dX10_oneMore_240 : decode cX10_oneMore 240 = .ok (.getfield 13, 3) := by decide +kernel
theorem dX10_oneMore_243 : decode cX10_oneMore 243 = .ok (.iload 5, 2) := by decide +kernel
theorem dX10_oneMore_245 : decode cX10_oneMore 245 = .ok (.iaload, 1) := by decide +kernel
theorem dX10_oneMore_246 : decode cX10_oneMore 246 = .ok (.iload 4, 2) := by decide +kernel
theorem dX10_oneMore_248 : decode cX10_oneMore 248 = .ok (.if_icmp .ne 7, 3) := by decide +kernel
theorem dX10_oneMore_251 : decode cX10_oneMore 251 = .ok (.iconst 1, 1) := by decide +kernel
theorem dX10_oneMore_252 : decode cX10_oneMore 252 = .ok (.goto 4, 3) := by decide +kernel
theorem dX10_oneMore_255 : decode cX10_oneMore 255 = .ok (.iconst 0, 1) := by decide +kernel
theorem dX10_oneMore_256 : decode cX10_oneMore 256 = .ok (.istore 6, 2) := by decide +kernel
theorem dX10_oneMore_258 : decode cX10_oneMore 258 = .ok (.aload_n 0, 1) := by decide +kernel
theorem dX10_oneMore_259 : decode cX10_oneMore 259 = .ok (.getfield 74, 3) := by decide +kernel
theorem dX10_oneMore_262 : decode cX10_oneMore 262 = .ok (.iload 5, 2) := by decide +kernel
theorem dX10_oneMore_264 : decode cX10_oneMore 264 = .ok (.aload_n 0, 1) := by decide +kernel
theorem dX10_oneMore_265 : decode cX10_oneMore 265 = .ok (.getfield 74, 3) := by decide +kernel
theorem dX10_oneMore_268 : decode cX10_oneMore 268 = .ok (.iload 5, 2) := by decide +kernel
theorem dX10_oneMore_270 : decode cX10_oneMore 270 = .ok (.iaload, 1) := by decide +kernel
theorem dX10_oneMore_271 : decode cX10_oneMore 271 = .ok (.ifCond .eq 7, 3) := by decide +kernel
theorem dX10_oneMore_274 : decode cX10_oneMore 274 = .ok (.iconst 0, 1) := by decide +kernel
theorem dX10_oneMore_275 : decode cX10_oneMore 275 = .ok (.goto 13, 3) := by decide +kernel
theorem dX10_oneMore_278 : decode cX10_oneMore 278 = .ok (.iload 6, 2) := by decide +kernel
theorem dX10_oneMore_280 : decode cX10_oneMore 280 = .ok (.ifCond .eq 7, 3) := by decide +kernel
theorem dX10_oneMore_283 : decode cX10_oneMore 283 = .ok (.iconst 1, 1) := by decide +kernel
theorem dX10_oneMore_284 : decode cX10_oneMore 284 = .ok (.goto 4, 3) := by decide +kernel
theorem dX10_oneMore_287 : decode cX10_oneMore 287 = .ok (.iconst 2, 1) := by decide +kernel
theorem dX10_oneMore_288 : decode cX10_oneMore 288 = .ok (.iastore, 1) := by decide +kernel
theorem dX10_oneMore_289 : decode cX10_oneMore 289 = .ok (.iload 6, 2) := by decide +kernel
theorem dX10_oneMore_291 : decode cX10_oneMore 291 = .ok (.ifCond .eq 13, 3) := by decide +kernel
theorem dX10_oneMore_294 : decode cX10_oneMore 294 = .ok (.aload_n 0, 1) := by decide +kernel
theorem dX10_oneMore_295 : decode cX10_oneMore 295 = .ok (.getfield 7, 3) := by decide +kernel
theorem dX10_oneMore_298 : decode cX10_oneMore 298 = .ok (.iload 5, 2) := by decide +kernel
theorem dX10_oneMore_300 : decode cX10_oneMore 300 = .ok (.iaload, 1) := by decide +kernel
theorem dX10_oneMore_301 : decode cX10_oneMore 301 = .ok (.goto 10, 3) := by decide +kernel
theorem dX10_oneMore_304 : decode cX10_oneMore 304 = .ok (.aload_n 0, 1) := by decide +kernel
theorem dX10_oneMore_305 : decode cX10_oneMore 305 = .ok (.getfield 13, 3) := by decide +kernel
theorem dX10_oneMore_308 : decode cX10_oneMore 308 = .ok (.iload 5, 2) := by decide +kernel
theorem dX10_oneMore_310 : decode cX10_oneMore 310 = .ok (.iaload, 1) := by decide +kernel
theorem dX10_oneMore_311 : decode cX10_oneMore 311 = .ok (.istore 4, 2) := by decide +kernel
theorem dX10_oneMore_313 : decode cX10_oneMore 313 = .ok (.goto (-89), 3) := by decide +kernel
theorem dX10_oneMore_316 : decode cX10_oneMore 316 = .ok (.iconst 1, 1) := by decide +kernel
theorem dX10_oneMore_317 : decode cX10_oneMore 317 = .ok (.ireturn, 1) := by decide +kernel
theorem wMd_oneMore_161 (l : Launch) (G : zG) (k61 : Int32 → Int32 → Int32 → Int32 → Int32 → Int32 → zM → Option (Int32 × zM)) (hk61 : ∀ (v1 : Int32) (v2 : Int32) (v3 : Int32) (v4 : Int32) (v5 : Int32) (v6 : Int32) (M : zM), zV eI l G zLY zRY 1 yX10_oneMore cX10_oneMore 10 (some .boolean) 61 [(0, .ref 0), (1, .int v1), (2, .int v2), (3, .int v3), (4, .int v4), (5, .int v5), (6, .int v6)] [] M (k61 v1 v2 v3 v4 v5 v6 M)) (v1 : Int32) (v2 : Int32) (v3 : Int32) (v4 : Int32) (v5 : Int32) (v6 : Int32) (vs0 : Int32) (M : zM) : zV eI l G zLY zRY 1 yX10_oneMore cX10_oneMore 10 (some .boolean) 161 [(0, .ref 0), (1, .int v1), (2, .int v2), (3, .int v3), (4, .int v4), (5, .int v5), (6, .int v6)] [.int vs0] M (fMd_oneMore_161 k61 v1 v2 v3 v4 v5 v6 vs0 M) := by
  rw [fMd_oneMore_161]
  refine v_istore (pc := 161) dX10_oneMore_161 (by decide) ?_
  refine v_iload (pc := 163) dX10_oneMore_163 rfl ?_
  refine v_if_lt (pc := 165) 198 dX10_oneMore_165 (by decide) ?_ ?_
  · refine v_iinc (pc := 198) 1 dX10_oneMore_198 rfl (by decide) (by decide) ?_
    refine v_goto (pc := 201) 61 dX10_oneMore_201 (by decide) ?_
    exact v_sub (hk61 v1 v2 v3 v4 v5 (v6 + 1) M) rfl
  · refine v_aload_n (pc := 168) dX10_oneMore_168 rfl ?_
    refine v_getR (pc := 169) (q := 26) zk10 ly_0 rfl ry_0_26 tw_1052 dX10_oneMore_169 ?_
    refine v_iload (pc := 172) dX10_oneMore_172 rfl ?_
    refine v_iald (pc := 174) ly_23 dX10_oneMore_174 (fun x1 => ?_)
    refine v_if_ge (pc := 175) 198 dX10_oneMore_175 (by decide) ?_ ?_
    · refine v_iinc (pc := 198) 1 dX10_oneMore_198 rfl (by decide) (by decide) ?_
      refine v_goto (pc := 201) 61 dX10_oneMore_201 (by decide) ?_
      exact v_sub (hk61 v1 v2 v3 v4 v5 (v6 + 1) M) rfl
    · refine v_aload_n (pc := 178) dX10_oneMore_178 rfl ?_
      refine v_getR (pc := 179) (q := 26) zk10 ly_0 rfl ry_0_26 tw_1052 dX10_oneMore_179 ?_
      refine v_iload (pc := 182) dX10_oneMore_182 rfl ?_
      refine v_iload (pc := 184) dX10_oneMore_184 rfl ?_
      refine v_iast (pc := 186) ly_23 dX10_oneMore_186 (fun M2 => ?_)
      refine v_aload_n (pc := 187) dX10_oneMore_187 rfl ?_
      refine v_getR (pc := 188) (q := 8) zk10 ly_0 rfl ry_0_8 tw_1034 dX10_oneMore_188 ?_
      refine v_iload_n (pc := 191) dX10_oneMore_191 rfl ?_
      refine v_iload (pc := 192) dX10_oneMore_192 rfl ?_
      refine v_iast (pc := 194) ly_7 dX10_oneMore_194 (fun M3 => ?_)
      refine v_iinc (pc := 195) 1 dX10_oneMore_195 rfl (by decide) (by decide) ?_
      refine v_iinc (pc := 198) 1 dX10_oneMore_198 rfl (by decide) (by decide) ?_
      refine v_goto (pc := 201) 61 dX10_oneMore_201 (by decide) ?_
      exact v_sub (hk61 v1 v2 (v3 + 1) v4 v5 (v6 + 1) M3) rfl
theorem wMd_oneMore_128 (l : Launch) (G : zG) (k61 : Int32 → Int32 → Int32 → Int32 → Int32 → Int32 → zM → Option (Int32 × zM)) (hk61 : ∀ (v1 : Int32) (v2 : Int32) (v3 : Int32) (v4 : Int32) (v5 : Int32) (v6 : Int32) (M : zM), zV eI l G zLY zRY 1 yX10_oneMore cX10_oneMore 10 (some .boolean) 61 [(0, .ref 0), (1, .int v1), (2, .int v2), (3, .int v3), (4, .int v4), (5, .int v5), (6, .int v6)] [] M (k61 v1 v2 v3 v4 v5 v6 M)) (v1 : Int32) (v2 : Int32) (v3 : Int32) (v4 : Int32) (v5 : Int32) (v6 : Int32) (v7 : Int32) (vs0 : Int32) (M : zM) : zV eI l G zLY zRY 1 yX10_oneMore cX10_oneMore 10 (some .boolean) 128 [(0, .ref 0), (1, .int v1), (2, .int v2), (3, .int v3), (4, .int v4), (5, .int v5), (6, .int v6), (7, .int v7)] [.int vs0] M (fMd_oneMore_128 k61 v1 v2 v3 v4 v5 v6 v7 vs0 M) := by
  rw [fMd_oneMore_128]
  refine v_istore (pc := 128) dX10_oneMore_128 (by decide) ?_
  refine v_iload (pc := 130) dX10_oneMore_130 rfl ?_
  refine v_if_eq (pc := 132) 145 dX10_oneMore_132 (by decide) ?_ ?_
  · refine v_iload (pc := 145) dX10_oneMore_145 rfl ?_
    refine v_if_eq (pc := 147) 160 dX10_oneMore_147 (by decide) ?_ ?_
    · refine v_iconst (pc := 160) (-1) dX10_oneMore_160 (by decide) ?_
      exact v_sub (wMd_oneMore_161 l G k61 hk61 v1 v2 v3 v4 v5 v6 (-1) M) rfl
    · refine v_aload_n (pc := 150) dX10_oneMore_150 rfl ?_
      refine v_getR (pc := 151) (q := 2) zk10 ly_0 rfl ry_0_2 tw_1028 dX10_oneMore_151 ?_
      refine v_iload (pc := 154) dX10_oneMore_154 rfl ?_
      refine v_iald (pc := 156) ly_1 dX10_oneMore_156 (fun x1 => ?_)
      refine v_goto (pc := 157) 161 dX10_oneMore_157 (by decide) ?_
      exact v_sub (wMd_oneMore_161 l G k61 hk61 v1 v2 v3 v4 v5 v6 x1 M) rfl
  · refine v_aload_n (pc := 135) dX10_oneMore_135 rfl ?_
    refine v_getR (pc := 136) (q := 3) zk10 ly_0 rfl ry_0_3 tw_1029 dX10_oneMore_136 ?_
    refine v_iload (pc := 139) dX10_oneMore_139 rfl ?_
    refine v_iald (pc := 141) ly_2 dX10_oneMore_141 (fun x2 => ?_)
    refine v_goto (pc := 142) 161 dX10_oneMore_142 (by decide) ?_
    exact v_sub (wMd_oneMore_161 l G k61 hk61 v1 v2 v3 v4 v5 v6 x2 M) rfl
theorem wMd_oneMore_127 (l : Launch) (G : zG) (k61 : Int32 → Int32 → Int32 → Int32 → Int32 → Int32 → zM → Option (Int32 × zM)) (hk61 : ∀ (v1 : Int32) (v2 : Int32) (v3 : Int32) (v4 : Int32) (v5 : Int32) (v6 : Int32) (M : zM), zV eI l G zLY zRY 1 yX10_oneMore cX10_oneMore 10 (some .boolean) 61 [(0, .ref 0), (1, .int v1), (2, .int v2), (3, .int v3), (4, .int v4), (5, .int v5), (6, .int v6)] [] M (k61 v1 v2 v3 v4 v5 v6 M)) (v1 : Int32) (v2 : Int32) (v3 : Int32) (v4 : Int32) (v5 : Int32) (v6 : Int32) (v7 : Int32) (M : zM) : zV eI l G zLY zRY 1 yX10_oneMore cX10_oneMore 10 (some .boolean) 127 [(0, .ref 0), (1, .int v1), (2, .int v2), (3, .int v3), (4, .int v4), (5, .int v5), (6, .int v6), (7, .int v7)] [] M (fMd_oneMore_127 k61 v1 v2 v3 v4 v5 v6 v7 M) := by
  rw [fMd_oneMore_127]
  refine v_iconst (pc := 127) 0 dX10_oneMore_127 (by decide) ?_
  exact v_sub (wMd_oneMore_128 l G k61 hk61 v1 v2 v3 v4 v5 v6 v7 0 M) rfl
theorem wMd_oneMore_98 (l : Launch) (G : zG) (k61 : Int32 → Int32 → Int32 → Int32 → Int32 → Int32 → zM → Option (Int32 × zM)) (hk61 : ∀ (v1 : Int32) (v2 : Int32) (v3 : Int32) (v4 : Int32) (v5 : Int32) (v6 : Int32) (M : zM), zV eI l G zLY zRY 1 yX10_oneMore cX10_oneMore 10 (some .boolean) 61 [(0, .ref 0), (1, .int v1), (2, .int v2), (3, .int v3), (4, .int v4), (5, .int v5), (6, .int v6)] [] M (k61 v1 v2 v3 v4 v5 v6 M)) (v1 : Int32) (v2 : Int32) (v3 : Int32) (v4 : Int32) (v5 : Int32) (v6 : Int32) (vs0 : Int32) (M : zM) : zV eI l G zLY zRY 1 yX10_oneMore cX10_oneMore 10 (some .boolean) 98 [(0, .ref 0), (1, .int v1), (2, .int v2), (3, .int v3), (4, .int v4), (5, .int v5), (6, .int v6)] [.int vs0] M (fMd_oneMore_98 k61 v1 v2 v3 v4 v5 v6 vs0 M) := by
  rw [fMd_oneMore_98]
  refine v_istore (pc := 98) dX10_oneMore_98 (by decide) ?_
  refine v_aload_n (pc := 100) dX10_oneMore_100 rfl ?_
  refine v_getR (pc := 101) (q := 3) zk10 ly_0 rfl ry_0_3 tw_1029 dX10_oneMore_101 ?_
  refine v_iload (pc := 104) dX10_oneMore_104 rfl ?_
  refine v_iald (pc := 106) ly_2 dX10_oneMore_106 (fun x1 => ?_)
  refine v_iload (pc := 107) dX10_oneMore_107 rfl ?_
  refine v_icmp_ne (pc := 109) 127 dX10_oneMore_109 (by decide) ?_ ?_
  · exact v_sub (wMd_oneMore_127 l G k61 hk61 v1 v2 v3 v4 v5 v6 vs0 M) rfl
  · refine v_aload_n (pc := 112) dX10_oneMore_112 rfl ?_
    refine v_getR (pc := 113) (q := 25) zk10 ly_0 rfl ry_0_25 tw_1051 dX10_oneMore_113 ?_
    refine v_iload (pc := 116) dX10_oneMore_116 rfl ?_
    refine v_iald (pc := 118) ly_22 dX10_oneMore_118 (fun x2 => ?_)
    refine v_iconst (pc := 119) 2 dX10_oneMore_119 (by decide) ?_
    refine v_icmp_eq (pc := 120) 127 dX10_oneMore_120 (by decide) ?_ ?_
    · exact v_sub (wMd_oneMore_127 l G k61 hk61 v1 v2 v3 v4 v5 v6 vs0 M) rfl
    · refine v_iconst (pc := 123) 1 dX10_oneMore_123 (by decide) ?_
      refine v_goto (pc := 124) 128 dX10_oneMore_124 (by decide) ?_
      exact v_sub (wMd_oneMore_128 l G k61 hk61 v1 v2 v3 v4 v5 v6 vs0 1 M) rfl
theorem wMd_oneMore_97 (l : Launch) (G : zG) (k61 : Int32 → Int32 → Int32 → Int32 → Int32 → Int32 → zM → Option (Int32 × zM)) (hk61 : ∀ (v1 : Int32) (v2 : Int32) (v3 : Int32) (v4 : Int32) (v5 : Int32) (v6 : Int32) (M : zM), zV eI l G zLY zRY 1 yX10_oneMore cX10_oneMore 10 (some .boolean) 61 [(0, .ref 0), (1, .int v1), (2, .int v2), (3, .int v3), (4, .int v4), (5, .int v5), (6, .int v6)] [] M (k61 v1 v2 v3 v4 v5 v6 M)) (v1 : Int32) (v2 : Int32) (v3 : Int32) (v4 : Int32) (v5 : Int32) (v6 : Int32) (M : zM) : zV eI l G zLY zRY 1 yX10_oneMore cX10_oneMore 10 (some .boolean) 97 [(0, .ref 0), (1, .int v1), (2, .int v2), (3, .int v3), (4, .int v4), (5, .int v5), (6, .int v6)] [] M (fMd_oneMore_97 k61 v1 v2 v3 v4 v5 v6 M) := by
  rw [fMd_oneMore_97]
  refine v_iconst (pc := 97) 0 dX10_oneMore_97 (by decide) ?_
  exact v_sub (wMd_oneMore_98 l G k61 hk61 v1 v2 v3 v4 v5 v6 0 M) rfl
theorem wMd_oneMore_61 (l : Launch) (G : zG) (k43 : Int32 → Int32 → Int32 → Int32 → zM → Option (Int32 × zM)) (hk43 : ∀ (v1 : Int32) (v2 : Int32) (v3 : Int32) (v4 : Int32) (M : zM), zV eI l G zLY zRY 1 yX10_oneMore cX10_oneMore 10 (some .boolean) 43 [(0, .ref 0), (1, .int v1), (2, .int v2), (3, .int v3), (4, .int v4)] [] M (k43 v1 v2 v3 v4 M)) : ∀ (fuel : Nat) (v1 : Int32) (v2 : Int32) (v3 : Int32) (v4 : Int32) (v5 : Int32) (v6 : Int32) (M : zM), zV eI l G zLY zRY 1 yX10_oneMore cX10_oneMore 10 (some .boolean) 61 [(0, .ref 0), (1, .int v1), (2, .int v2), (3, .int v3), (4, .int v4), (5, .int v5), (6, .int v6)] [] M (fMd_oneMore_61 k43 fuel v1 v2 v3 v4 v5 v6 M) := by
  intro fuel
  induction fuel with
  | zero => intro v1 v2 v3 v4 v5 v6 M; exact v_none
  | succ fuel ih =>
    intro v1 v2 v3 v4 v5 v6 M
    rw [fMd_oneMore_61]
    refine v_iload (pc := 61) dX10_oneMore_61 rfl ?_
    refine v_aload_n (pc := 63) dX10_oneMore_63 rfl ?_
    refine v_getI (pc := 64) (q := 1) zk10 ly_0 rfl tw_1027 dX10_oneMore_64 ?_
    refine v_icmp_ge (pc := 67) 204 dX10_oneMore_67 (by decide) ?_ ?_
    · refine v_iinc (pc := 204) 1 dX10_oneMore_204 rfl (by decide) (by decide) ?_
      refine v_goto (pc := 207) 43 dX10_oneMore_207 (by decide) ?_
      exact v_sub (hk43 v1 v2 v3 (v4 + 1) M) rfl
    · refine v_aload_n (pc := 70) dX10_oneMore_70 rfl ?_
      refine v_getR (pc := 71) (q := 2) zk10 ly_0 rfl ry_0_2 tw_1028 dX10_oneMore_71 ?_
      refine v_iload (pc := 74) dX10_oneMore_74 rfl ?_
      refine v_iald (pc := 76) ly_1 dX10_oneMore_76 (fun x1 => ?_)
      refine v_iload (pc := 77) dX10_oneMore_77 rfl ?_
      refine v_icmp_ne (pc := 79) 97 dX10_oneMore_79 (by decide) ?_ ?_
      · exact v_sub (wMd_oneMore_97 l G (fMd_oneMore_61 k43 fuel) ih v1 v2 v3 v4 v5 v6 M) rfl
      · refine v_aload_n (pc := 82) dX10_oneMore_82 rfl ?_
        refine v_getR (pc := 83) (q := 25) zk10 ly_0 rfl ry_0_25 tw_1051 dX10_oneMore_83 ?_
        refine v_iload (pc := 86) dX10_oneMore_86 rfl ?_
        refine v_iald (pc := 88) ly_22 dX10_oneMore_88 (fun x2 => ?_)
        refine v_iconst (pc := 89) 1 dX10_oneMore_89 (by decide) ?_
        refine v_icmp_eq (pc := 90) 97 dX10_oneMore_90 (by decide) ?_ ?_
        · exact v_sub (wMd_oneMore_97 l G (fMd_oneMore_61 k43 fuel) ih v1 v2 v3 v4 v5 v6 M) rfl
        · refine v_iconst (pc := 93) 1 dX10_oneMore_93 (by decide) ?_
          refine v_goto (pc := 94) 98 dX10_oneMore_94 (by decide) ?_
          exact v_sub (wMd_oneMore_98 l G (fMd_oneMore_61 k43 fuel) ih v1 v2 v3 v4 v5 v6 1 M) rfl
theorem wMd_oneMore_288 (l : Launch) (G : zG) (k224 : Int32 → Int32 → zM → Option (Int32 × zM)) (hk224 : ∀ (v1 : Int32) (v4 : Int32) (M : zM), zV eI l G zLY zRY 1 yX10_oneMore cX10_oneMore 10 (some .boolean) 224 [(0, .ref 0), (1, .int v1), (4, .int v4)] [] M (k224 v1 v4 M)) (v1 : Int32) (v5 : Int32) (v6 : Int32) (vs0 : Int32) (vs1 : Int32) (M : zM) : zV eI l G zLY zRY 1 yX10_oneMore cX10_oneMore 10 (some .boolean) 288 [(0, .ref 0), (1, .int v1), (5, .int v5), (6, .int v6)] [.int vs0, .int vs1, .ref 22] M (fMd_oneMore_288 k224 v1 v5 v6 vs0 vs1 M) := by
  rw [fMd_oneMore_288]
  refine v_iast (pc := 288) ly_22 dX10_oneMore_288 (fun M1 => ?_)
  refine v_iload (pc := 289) dX10_oneMore_289 rfl ?_
  refine v_if_eq (pc := 291) 304 dX10_oneMore_291 (by decide) ?_ ?_
  · refine v_aload_n (pc := 304) dX10_oneMore_304 rfl ?_
    refine v_getR (pc := 305) (q := 3) zk10 ly_0 rfl ry_0_3 tw_1029 dX10_oneMore_305 ?_
    refine v_iload (pc := 308) dX10_oneMore_308 rfl ?_
    refine v_iald (pc := 310) ly_2 dX10_oneMore_310 (fun x2 => ?_)
    refine v_istore (pc := 311) dX10_oneMore_311 (by decide) ?_
    refine v_goto (pc := 313) 224 dX10_oneMore_313 (by decide) ?_
    exact v_sub (hk224 v1 x2 M1) rfl
  · refine v_aload_n (pc := 294) dX10_oneMore_294 rfl ?_
    refine v_getR (pc := 295) (q := 2) zk10 ly_0 rfl ry_0_2 tw_1028 dX10_oneMore_295 ?_
    refine v_iload (pc := 298) dX10_oneMore_298 rfl ?_
    refine v_iald (pc := 300) ly_1 dX10_oneMore_300 (fun x3 => ?_)
    refine v_goto (pc := 301) 311 dX10_oneMore_301 (by decide) ?_
    refine v_istore (pc := 311) dX10_oneMore_311 (by decide) ?_
    refine v_goto (pc := 313) 224 dX10_oneMore_313 (by decide) ?_
    exact v_sub (hk224 v1 x3 M1) rfl
theorem wMd_oneMore_256 (l : Launch) (G : zG) (k224 : Int32 → Int32 → zM → Option (Int32 × zM)) (hk224 : ∀ (v1 : Int32) (v4 : Int32) (M : zM), zV eI l G zLY zRY 1 yX10_oneMore cX10_oneMore 10 (some .boolean) 224 [(0, .ref 0), (1, .int v1), (4, .int v4)] [] M (k224 v1 v4 M)) (v1 : Int32) (v5 : Int32) (vs0 : Int32) (M : zM) : zV eI l G zLY zRY 1 yX10_oneMore cX10_oneMore 10 (some .boolean) 256 [(0, .ref 0), (1, .int v1), (5, .int v5)] [.int vs0] M (fMd_oneMore_256 k224 v1 v5 vs0 M) := by
  rw [fMd_oneMore_256]
  refine v_istore (pc := 256) dX10_oneMore_256 (by decide) ?_
  refine v_aload_n (pc := 258) dX10_oneMore_258 rfl ?_
  refine v_getR (pc := 259) (q := 25) zk10 ly_0 rfl ry_0_25 tw_1051 dX10_oneMore_259 ?_
  refine v_iload (pc := 262) dX10_oneMore_262 rfl ?_
  refine v_aload_n (pc := 264) dX10_oneMore_264 rfl ?_
  refine v_getR (pc := 265) (q := 25) zk10 ly_0 rfl ry_0_25 tw_1051 dX10_oneMore_265 ?_
  refine v_iload (pc := 268) dX10_oneMore_268 rfl ?_
  refine v_iald (pc := 270) ly_22 dX10_oneMore_270 (fun x1 => ?_)
  refine v_if_eq (pc := 271) 278 dX10_oneMore_271 (by decide) ?_ ?_
  · refine v_iload (pc := 278) dX10_oneMore_278 rfl ?_
    refine v_if_eq (pc := 280) 287 dX10_oneMore_280 (by decide) ?_ ?_
    · refine v_iconst (pc := 287) 2 dX10_oneMore_287 (by decide) ?_
      exact v_sub (wMd_oneMore_288 l G k224 hk224 v1 v5 vs0 2 v5 M) rfl
    · refine v_iconst (pc := 283) 1 dX10_oneMore_283 (by decide) ?_
      refine v_goto (pc := 284) 288 dX10_oneMore_284 (by decide) ?_
      exact v_sub (wMd_oneMore_288 l G k224 hk224 v1 v5 vs0 1 v5 M) rfl
  · refine v_iconst (pc := 274) 0 dX10_oneMore_274 (by decide) ?_
    refine v_goto (pc := 275) 288 dX10_oneMore_275 (by decide) ?_
    exact v_sub (wMd_oneMore_288 l G k224 hk224 v1 v5 vs0 0 v5 M) rfl
theorem wMd_oneMore_224 (l : Launch) (G : zG) : ∀ (fuel : Nat) (v1 : Int32) (v4 : Int32) (M : zM), zV eI l G zLY zRY 1 yX10_oneMore cX10_oneMore 10 (some .boolean) 224 [(0, .ref 0), (1, .int v1), (4, .int v4)] [] M (fMd_oneMore_224 fuel v1 v4 M) := by
  intro fuel
  induction fuel with
  | zero => intro v1 v4 M; exact v_none
  | succ fuel ih =>
    intro v1 v4 M
    rw [fMd_oneMore_224]
    refine v_iload (pc := 224) dX10_oneMore_224 rfl ?_
    refine v_iload_n (pc := 226) dX10_oneMore_226 rfl ?_
    refine v_icmp_eq (pc := 227) 316 dX10_oneMore_227 (by decide) ?_ ?_
    · refine v_iconst (pc := 316) 1 dX10_oneMore_316 (by decide) ?_
      exact v_zret (pc := 317) dX10_oneMore_317
    · refine v_aload_n (pc := 230) dX10_oneMore_230 rfl ?_
      refine v_getR (pc := 231) (q := 26) zk10 ly_0 rfl ry_0_26 tw_1052 dX10_oneMore_231 ?_
      refine v_iload (pc := 234) dX10_oneMore_234 rfl ?_
      refine v_iald (pc := 236) ly_23 dX10_oneMore_236 (fun x1 => ?_)
      refine v_istore (pc := 237) dX10_oneMore_237 (by decide) ?_
      refine v_aload_n (pc := 239) dX10_oneMore_239 rfl ?_
      refine v_getR (pc := 240) (q := 3) zk10 ly_0 rfl ry_0_3 tw_1029 dX10_oneMore_240 ?_
      refine v_iload (pc := 243) dX10_oneMore_243 rfl ?_
      refine v_iald (pc := 245) ly_2 dX10_oneMore_245 (fun x2 => ?_)
      refine v_iload (pc := 246) dX10_oneMore_246 rfl ?_
      refine v_icmp_ne (pc := 248) 255 dX10_oneMore_248 (by decide) ?_ ?_
      · refine v_iconst (pc := 255) 0 dX10_oneMore_255 (by decide) ?_
        exact v_sub (wMd_oneMore_256 l G (fMd_oneMore_224 fuel) ih v1 x1 0 M) rfl
      · refine v_iconst (pc := 251) 1 dX10_oneMore_251 (by decide) ?_
        refine v_goto (pc := 252) 256 dX10_oneMore_252 (by decide) ?_
        exact v_sub (wMd_oneMore_256 l G (fMd_oneMore_224 fuel) ih v1 x1 1 M) rfl
theorem wMd_oneMore_43 (l : Launch) (G : zG) : ∀ (fuel : Nat) (v1 : Int32) (v2 : Int32) (v3 : Int32) (v4 : Int32) (M : zM), zV eI l G zLY zRY 1 yX10_oneMore cX10_oneMore 10 (some .boolean) 43 [(0, .ref 0), (1, .int v1), (2, .int v2), (3, .int v3), (4, .int v4)] [] M (fMd_oneMore_43 fuel v1 v2 v3 v4 M) := by
  intro fuel
  induction fuel with
  | zero => intro v1 v2 v3 v4 M; exact v_none
  | succ fuel ih =>
    intro v1 v2 v3 v4 M
    rw [fMd_oneMore_43]
    refine v_iload (pc := 43) dX10_oneMore_43 rfl ?_
    refine v_iload_n (pc := 45) dX10_oneMore_45 rfl ?_
    refine v_icmp_ge (pc := 46) 210 dX10_oneMore_46 (by decide) ?_ ?_
    · refine v_aload_n (pc := 210) dX10_oneMore_210 rfl ?_
      refine v_getR (pc := 211) (q := 26) zk10 ly_0 rfl ry_0_26 tw_1052 dX10_oneMore_211 ?_
      refine v_iload_n (pc := 214) dX10_oneMore_214 rfl ?_
      refine v_iald (pc := 215) ly_23 dX10_oneMore_215 (fun x1 => ?_)
      refine v_if_ge (pc := 216) 221 dX10_oneMore_216 (by decide) ?_ ?_
      · refine v_iload_n (pc := 221) dX10_oneMore_221 rfl ?_
        refine v_istore (pc := 222) dX10_oneMore_222 (by decide) ?_
        exact v_sub (wMd_oneMore_224 l G FU v1 v2 M) rfl
      · refine v_iconst (pc := 219) 0 dX10_oneMore_219 (by decide) ?_
        exact v_zret (pc := 220) dX10_oneMore_220
    · refine v_aload_n (pc := 49) dX10_oneMore_49 rfl ?_
      refine v_getR (pc := 50) (q := 8) zk10 ly_0 rfl ry_0_8 tw_1034 dX10_oneMore_50 ?_
      refine v_iload (pc := 53) dX10_oneMore_53 rfl ?_
      refine v_iald (pc := 55) ly_7 dX10_oneMore_55 (fun x2 => ?_)
      refine v_istore (pc := 56) dX10_oneMore_56 (by decide) ?_
      refine v_iconst (pc := 58) 0 dX10_oneMore_58 (by decide) ?_
      refine v_istore (pc := 59) dX10_oneMore_59 (by decide) ?_
      exact v_sub (wMd_oneMore_61 l G (fMd_oneMore_43 fuel) ih FU v1 v2 v3 v4 x2 0 M) rfl
theorem wMd_oneMore_2 (l : Launch) (G : zG) : ∀ (fuel : Nat) (v1 : Int32) (v2 : Int32) (v3 : Int32) (M : zM), zV eI l G zLY zRY 1 yX10_oneMore cX10_oneMore 10 (some .boolean) 2 [(0, .ref 0), (1, .int v1), (2, .int v2), (3, .int v3)] [] M (fMd_oneMore_2 fuel v1 v2 v3 M) := by
  intro fuel
  induction fuel with
  | zero => intro v1 v2 v3 M; exact v_none
  | succ fuel ih =>
    intro v1 v2 v3 M
    rw [fMd_oneMore_2]
    refine v_iload_n (pc := 2) dX10_oneMore_2 rfl ?_
    refine v_aload_n (pc := 3) dX10_oneMore_3 rfl ?_
    refine v_getI (pc := 4) (q := 0) zk10 ly_0 rfl tw_1026 dX10_oneMore_4 ?_
    refine v_icmp_ge (pc := 7) 23 dX10_oneMore_7 (by decide) ?_ ?_
    · refine v_aload_n (pc := 23) dX10_oneMore_23 rfl ?_
      refine v_getR (pc := 24) (q := 8) zk10 ly_0 rfl ry_0_8 tw_1034 dX10_oneMore_24 ?_
      refine v_iconst (pc := 27) 0 dX10_oneMore_27 (by decide) ?_
      refine v_iload_n (pc := 28) dX10_oneMore_28 rfl ?_
      refine v_iast (pc := 29) ly_7 dX10_oneMore_29 (fun M1 => ?_)
      refine v_iconst (pc := 30) 1 dX10_oneMore_30 (by decide) ?_
      refine v_istore_n (pc := 31) dX10_oneMore_31 (by decide) ?_
      refine v_aload_n (pc := 32) dX10_oneMore_32 rfl ?_
      refine v_getR (pc := 33) (q := 26) zk10 ly_0 rfl ry_0_26 tw_1052 dX10_oneMore_33 ?_
      refine v_iload_n (pc := 36) dX10_oneMore_36 rfl ?_
      refine v_bipush (pc := 37) 30 dX10_oneMore_37 (by decide) ?_
      refine v_iast (pc := 39) ly_23 dX10_oneMore_39 (fun M2 => ?_)
      refine v_iconst (pc := 40) 0 dX10_oneMore_40 (by decide) ?_
      refine v_istore (pc := 41) dX10_oneMore_41 (by decide) ?_
      exact v_sub (wMd_oneMore_43 l G FU v1 v2 1 0 M2) rfl
    · refine v_aload_n (pc := 10) dX10_oneMore_10 rfl ?_
      refine v_getR (pc := 11) (q := 26) zk10 ly_0 rfl ry_0_26 tw_1052 dX10_oneMore_11 ?_
      refine v_iload_n (pc := 14) dX10_oneMore_14 rfl ?_
      refine v_iconst (pc := 15) (-1) dX10_oneMore_15 (by decide) ?_
      refine v_iast (pc := 16) ly_23 dX10_oneMore_16 (fun M3 => ?_)
      refine v_iinc (pc := 17) 1 dX10_oneMore_17 rfl (by decide) (by decide) ?_
      refine v_goto (pc := 20) 2 dX10_oneMore_20 (by decide) ?_
      exact v_sub (ih v1 v2 (v3 + 1) M3) rfl
theorem wMd_oneMore (l : Launch) (G : zG) (v1 : Int32) (v2 : Int32) (M : zM) : zV eI l G zLY zRY 1 yX10_oneMore cX10_oneMore 10 (some .boolean) 0 [(0, .ref 0), (1, .int v1), (2, .int v2)] [] M (fMd_oneMore v1 v2 M) := by
  rw [fMd_oneMore]
  refine v_iconst (pc := 0) 0 dX10_oneMore_0 (by decide) ?_
  refine v_istore_n (pc := 1) dX10_oneMore_1 (by decide) ?_
  exact v_sub (wMd_oneMore_2 l G FU v1 v2 0 M) rfl
theorem cMd_oneMore (l : Launch) (G : zG) (v1 : Int32) (v2 : Int32) (M : zM) : zC eI l G zLY zRY 1 yX10_oneMore cX10_oneMore 10 (some .boolean) [.ref 0, .int v1, .int v2] M (fMd_oneMore v1 v2 M) := zC.of (by decide) (Nat.le_of_ble_eq_true rfl) (v_sub (wMd_oneMore l G v1 v2 M) rfl)
theorem dX10_ways_0 : decode cX10_ways 0 = .ok (.aload_n 0, 1) := by decide +kernel
theorem dX10_ways_1 : decode cX10_ways 1 = .ok (.iload_n 1, 1) := by decide +kernel
theorem dX10_ways_2 : decode cX10_ways 2 = .ok (.invokevirtual 115, 3) := by decide +kernel
theorem dX10_ways_5 : decode cX10_ways 5 = .ok (.ifCond .ne 11, 3) := by decide +kernel
theorem dX10_ways_8 : decode cX10_ways 8 = .ok (.aload_n 0, 1) := by decide +kernel
theorem dX10_ways_9 : decode cX10_ways 9 = .ok (.iload_n 2, 1) := by decide +kernel
theorem dX10_ways_10 : decode cX10_ways 10 = .ok (.invokevirtual 115, 3) := by decide +kernel
theorem dX10_ways_13 : decode cX10_ways 13 = .ok (.ifCond .eq 7, 3) := by decide +kernel
theorem dX10_ways_16 : decode cX10_ways 16 = .ok (.sipush (-1001), 3) := by decide +kernel
theorem dX10_ways_19 : decode cX10_ways 19 = .ok (.ireturn, 1) := by decide +kernel
theorem dX10_ways_20 : decode cX10_ways 20 = .ok (.iload_n 1, 1) := by decide +kernel
theorem dX10_ways_21 : decode cX10_ways 21 = .ok (.iload_n 2, 1) := by decide +kernel
theorem dX10_ways_22 : decode cX10_ways 22 = .ok (.if_icmp .ne 7, 3) := by decide +kernel
theorem dX10_ways_25 : decode cX10_ways 25 = .ok (.sipush (-1003), 3) := by decide +kernel
theorem dX10_ways_28 : decode cX10_ways 28 = .ok (.ireturn, 1) := by decide +kernel
theorem dX10_ways_29 : decode cX10_ways 29 = .ok (.iconst 0, 1) := by decide +kernel
theorem dX10_ways_30 : decode cX10_ways 30 = .ok (.istore_n 3, 1) := by decide +kernel
theorem dX10_ways_31 : decode cX10_ways 31 = .ok (.iload_n 3, 1) := by decide +kernel
theorem dX10_ways_32 : decode cX10_ways 32 = .ok (.aload_n 0, 1) := by decide +kernel
theorem dX10_ways_33 : decode cX10_ways 33 = .ok (.getfield 106, 3) := by decide +kernel
theorem dX10_ways_36 : decode cX10_ways 36 = .ok (.if_icmp .ge 16, 3) := by decide +kernel
theorem dX10_ways_39 : decode cX10_ways 39 = .ok (.aload_n 0, 1) := by decide +kernel
theorem dX10_ways_40 : decode cX10_ways 40 = .ok (.getfield 74, 3) := by decide +kernel
theorem dX10_ways_43 : decode cX10_ways 43 = .ok (.iload_n 3, 1) := by decide +kernel
theorem dX10_ways_44 : decode cX10_ways 44 = .ok (.iconst 0, 1) := by decide +kernel
theorem dX10_ways_45 : decode cX10_ways 45 = .ok (.iastore, 1) := by decide +kernel
theorem dX10_ways_46 : decode cX10_ways 46 = .ok (.iinc 3 1, 3) := by decide +kernel
theorem dX10_ways_49 : decode cX10_ways 49 = .ok (.goto (-18), 3) := by decide +kernel
theorem dX10_ways_52 : decode cX10_ways 52 = .ok (.iconst 0, 1) := by decide +kernel
theorem dX10_ways_53 : decode cX10_ways 53 = .ok (.istore_n 3, 1) := by decide +kernel
theorem dX10_ways_54 : decode cX10_ways 54 = .ok (.aload_n 0, 1) := by decide +kernel
theorem dX10_ways_55 : decode cX10_ways 55 = .ok (.iload_n 1, 1) := by decide +kernel
theorem dX10_ways_56 : decode cX10_ways 56 = .ok (.iload_n 2, 1) := by decide +kernel
theorem dX10_ways_57 : decode cX10_ways 57 = .ok (.invokevirtual 237, 3) := by decide +kernel
theorem dX10_ways_60 : decode cX10_ways 60 = .ok (.ifCond .eq 9, 3) := by decide +kernel
theorem dX10_ways_63 : decode cX10_ways 63 = .ok (.iinc 3 1, 3) := by decide +kernel
theorem dX10_ways_66 : decode cX10_ways 66 = .ok (.goto (-12), 3) := by decide +kernel
theorem dX10_ways_69 : decode cX10_ways 69 = .ok (.iload_n 3, 1) := by decide +kernel
theorem dX10_ways_70 : decode cX10_ways 70 = .ok (.ireturn, 1) := by decide +kernel
theorem wMd_ways_54 (l : Launch) (G : zG) : ∀ (fuel : Nat) (v1 : Int32) (v2 : Int32) (v3 : Int32) (M : zM), zV eI l G zLY zRY 3 yX10_ways cX10_ways 4 (some .int) 54 [(0, .ref 0), (1, .int v1), (2, .int v2), (3, .int v3)] [] M (fMd_ways_54 fuel v1 v2 v3 M) := by
  intro fuel
  induction fuel with
  | zero => intro v1 v2 v3 M; exact v_none
  | succ fuel ih =>
    intro v1 v2 v3 M
    rw [fMd_ways_54]
    refine v_aload_n (pc := 54) dX10_ways_54 rfl ?_
    refine v_iload_n (pc := 55) dX10_ways_55 rfl ?_
    refine v_iload_n (pc := 56) dX10_ways_56 rfl ?_
    refine v_callV (pc := 57) (As := [.int v1, .int v2]) (cMd_oneMore l G v1 v2 M) zc_X10_oneMore zk10 rfl ly_0 tw_1373 (by decide) (Nat.le_of_ble_eq_true rfl) dX10_ways_57 (fun r2 M1 => ?_)
    refine v_if_eq (pc := 60) 69 dX10_ways_60 (by decide) ?_ ?_
    · refine v_iload_n (pc := 69) dX10_ways_69 rfl ?_
      exact v_iret (pc := 70) dX10_ways_70
    · refine v_iinc (pc := 63) 1 dX10_ways_63 rfl (by decide) (by decide) ?_
      refine v_goto (pc := 66) 54 dX10_ways_66 (by decide) ?_
      exact v_sub (ih v1 v2 (v3 + 1) M1) rfl
theorem wMd_ways_31 (l : Launch) (G : zG) : ∀ (fuel : Nat) (v1 : Int32) (v2 : Int32) (v3 : Int32) (M : zM), zV eI l G zLY zRY 3 yX10_ways cX10_ways 4 (some .int) 31 [(0, .ref 0), (1, .int v1), (2, .int v2), (3, .int v3)] [] M (fMd_ways_31 fuel v1 v2 v3 M) := by
  intro fuel
  induction fuel with
  | zero => intro v1 v2 v3 M; exact v_none
  | succ fuel ih =>
    intro v1 v2 v3 M
    rw [fMd_ways_31]
    refine v_iload_n (pc := 31) dX10_ways_31 rfl ?_
    refine v_aload_n (pc := 32) dX10_ways_32 rfl ?_
    refine v_getI (pc := 33) (q := 1) zk10 ly_0 rfl tw_1027 dX10_ways_33 ?_
    refine v_icmp_ge (pc := 36) 52 dX10_ways_36 (by decide) ?_ ?_
    · refine v_iconst (pc := 52) 0 dX10_ways_52 (by decide) ?_
      refine v_istore_n (pc := 53) dX10_ways_53 (by decide) ?_
      exact v_sub (wMd_ways_54 l G FU v1 v2 0 M) rfl
    · refine v_aload_n (pc := 39) dX10_ways_39 rfl ?_
      refine v_getR (pc := 40) (q := 25) zk10 ly_0 rfl ry_0_25 tw_1051 dX10_ways_40 ?_
      refine v_iload_n (pc := 43) dX10_ways_43 rfl ?_
      refine v_iconst (pc := 44) 0 dX10_ways_44 (by decide) ?_
      refine v_iast (pc := 45) ly_22 dX10_ways_45 (fun M1 => ?_)
      refine v_iinc (pc := 46) 1 dX10_ways_46 rfl (by decide) (by decide) ?_
      refine v_goto (pc := 49) 31 dX10_ways_49 (by decide) ?_
      exact v_sub (ih v1 v2 (v3 + 1) M1) rfl
theorem wMd_ways (l : Launch) (G : zG) (v1 : Int32) (v2 : Int32) (M : zM) : zV eI l G zLY zRY 3 yX10_ways cX10_ways 4 (some .int) 0 [(0, .ref 0), (1, .int v1), (2, .int v2)] [] M (fMd_ways v1 v2 M) := by
  rw [fMd_ways]
  refine v_aload_n (pc := 0) dX10_ways_0 rfl ?_
  refine v_iload_n (pc := 1) dX10_ways_1 rfl ?_
  refine v_callV (pc := 2) (As := [.int v1]) (cMd_noPost l G v1 M) zc_X10_noPost zk10 rfl ly_0 tw_1164 (by decide) (Nat.le_of_ble_eq_true rfl) dX10_ways_2 (fun r2 M1 => ?_)
  refine v_if_ne (pc := 5) 16 dX10_ways_5 (by decide) ?_ ?_
  · refine v_sipush (pc := 16) (-1001) dX10_ways_16 (by decide) ?_
    exact v_iret (pc := 19) dX10_ways_19
  · refine v_aload_n (pc := 8) dX10_ways_8 rfl ?_
    refine v_iload_n (pc := 9) dX10_ways_9 rfl ?_
    refine v_callV (pc := 10) (As := [.int v2]) (cMd_noPost l G v2 M1) zc_X10_noPost zk10 rfl ly_0 tw_1164 (by decide) (Nat.le_of_ble_eq_true rfl) dX10_ways_10 (fun r4 M3 => ?_)
    refine v_if_eq (pc := 13) 20 dX10_ways_13 (by decide) ?_ ?_
    · refine v_iload_n (pc := 20) dX10_ways_20 rfl ?_
      refine v_iload_n (pc := 21) dX10_ways_21 rfl ?_
      refine v_icmp_ne (pc := 22) 29 dX10_ways_22 (by decide) ?_ ?_
      · refine v_iconst (pc := 29) 0 dX10_ways_29 (by decide) ?_
        refine v_istore_n (pc := 30) dX10_ways_30 (by decide) ?_
        exact v_sub (wMd_ways_31 l G FU v1 v2 0 M3) rfl
      · refine v_sipush (pc := 25) (-1003) dX10_ways_25 (by decide) ?_
        exact v_iret (pc := 28) dX10_ways_28
    · refine v_sipush (pc := 16) (-1001) dX10_ways_16 (by decide) ?_
      exact v_iret (pc := 19) dX10_ways_19
theorem cMd_ways (l : Launch) (G : zG) (v1 : Int32) (v2 : Int32) (M : zM) : zC eI l G zLY zRY 3 yX10_ways cX10_ways 4 (some .int) [.ref 0, .int v1, .int v2] M (fMd_ways v1 v2 M) := zC.of (by decide) (Nat.le_of_ble_eq_true rfl) (v_sub (wMd_ways l G v1 v2 M) rfl)
theorem dX10_pairs_0 : decode cX10_pairs 0 = .ok (.iload_n 0, 1) := by decide +kernel
theorem dX10_pairs_1 : decode cX10_pairs 1 = .ok (.iload_n 0, 1) := by decide +kernel
theorem dX10_pairs_2 : decode cX10_pairs 2 = .ok (.iconst 1, 1) := by decide +kernel
theorem dX10_pairs_3 : decode cX10_pairs 3 = .ok (.isub, 1) := by decide +kernel
theorem dX10_pairs_4 : decode cX10_pairs 4 = .ok (.imul, 1) := by decide +kernel
theorem dX10_pairs_5 : decode cX10_pairs 5 = .ok (.iconst 2, 1) := by decide +kernel
theorem dX10_pairs_6 : decode cX10_pairs 6 = .ok (.idiv, 1) := by decide +kernel
theorem dX10_pairs_7 : decode cX10_pairs 7 = .ok (.ireturn, 1) := by decide +kernel
theorem wMd_pairs (l : Launch) (G : zG) (v0 : Int32) (M : zM) : zV eI l G zLY zRY 1 yX10_pairs cX10_pairs 1 (some .int) 0 [(0, .int v0)] [] M (fMd_pairs v0 M) := by
  rw [fMd_pairs]
  refine v_iload_n (pc := 0) dX10_pairs_0 rfl ?_
  refine v_iload_n (pc := 1) dX10_pairs_1 rfl ?_
  refine v_iconst (pc := 2) 1 dX10_pairs_2 (by decide) ?_
  refine v_isub (pc := 3) dX10_pairs_3 ?_
  refine v_imul (pc := 4) dX10_pairs_4 ?_
  refine v_iconst (pc := 5) 2 dX10_pairs_5 (by decide) ?_
  refine v_idiv (pc := 6) dX10_pairs_6 (fun z1 => ?_)
  exact v_iret (pc := 7) dX10_pairs_7
theorem cMd_pairs (l : Launch) (G : zG) (v0 : Int32) (M : zM) : zC eI l G zLY zRY 1 yX10_pairs cX10_pairs 1 (some .int) [.int v0] M (fMd_pairs v0 M) := zC.of (by decide) (Nat.le_of_ble_eq_true rfl) (v_sub (wMd_pairs l G v0 M) rfl)
theorem dX10_joined_0 : decode cX10_joined 0 = .ok (.iload_n 1, 1) := by decide +kernel
theorem dX10_joined_1 : decode cX10_joined 1 = .ok (.iload_n 2, 1) := by decide +kernel
theorem dX10_joined_2 : decode cX10_joined 2 = .ok (.if_icmp .ge 7, 3) := by decide +kernel
theorem dX10_joined_5 : decode cX10_joined 5 = .ok (.iload_n 1, 1) := by decide +kernel
theorem dX10_joined_6 : decode cX10_joined 6 = .ok (.goto 4, 3) := by decide +kernel
theorem dX10_joined_9 : decode cX10_joined 9 = .ok (.iload_n 2, 1) := by decide +kernel
theorem dX10_joined_10 : decode cX10_joined 10 = .ok (.istore_n 3, 1) := by decide +kernel
theorem dX10_joined_11 : decode cX10_joined 11 = .ok (.iload_n 1, 1) := by decide +kernel
theorem dX10_joined_12 : decode cX10_joined 12 = .ok (.iload_n 2, 1) := by decide +kernel
theorem dX10_joined_13 : decode cX10_joined 13 = .ok (.if_icmp .ge 7, 3) := by decide +kernel
theorem dX10_joined_16 : decode cX10_joined 16 = .ok (.iload_n 2, 1) := by decide +kernel
theorem dX10_joined_17 : decode cX10_joined 17 = .ok (.goto 4, 3) := by decide +kernel
theorem dX10_joined_20 : decode cX10_joined 20 = .ok (.iload_n 1, 1) := by decide +kernel
theorem dX10_joined_21 : decode cX10_joined 21 = .ok (.istore 4, 2) := by decide +kernel
theorem dX10_joined_23 : decode cX10_joined 23 = .ok (.iload_n 0, 1) := by decide +kernel
theorem dX10_joined_24 : decode cX10_joined 24 = .ok (.iload 4, 2) := by decide +kernel
theorem dX10_joined_26 : decode cX10_joined 26 = .ok (.invokestatic 240, 3) := by decide +kernel
theorem dX10_joined_29 : decode cX10_joined 29 = .ok (.iload_n 3, 1) := by decide +kernel
theorem dX10_joined_30 : decode cX10_joined 30 = .ok (.iadd, 1) := by decide +kernel
theorem dX10_joined_31 : decode cX10_joined 31 = .ok (.ishr, 1) := by decide +kernel
theorem dX10_joined_32 : decode cX10_joined 32 = .ok (.iconst 1, 1) := by decide +kernel
theorem dX10_joined_33 : decode cX10_joined 33 = .ok (.iand, 1) := by decide +kernel
theorem dX10_joined_34 : decode cX10_joined 34 = .ok (.ireturn, 1) := by decide +kernel
theorem wMd_joined_21 (l : Launch) (G : zG) (v0 : Int32) (v3 : Int32) (vs0 : Int32) (M : zM) : zV eI l G zLY zRY 2 yX10_joined cX10_joined 5 (some .int) 21 [(0, .int v0), (3, .int v3)] [.int vs0] M (fMd_joined_21 v0 v3 vs0 M) := by
  rw [fMd_joined_21]
  refine v_istore (pc := 21) dX10_joined_21 (by decide) ?_
  refine v_iload_n (pc := 23) dX10_joined_23 rfl ?_
  refine v_iload (pc := 24) dX10_joined_24 rfl ?_
  refine v_callS (pc := 26) (As := [.int vs0]) (cMd_pairs l G vs0 M) zc_X10_pairs tw_1382 (by decide) (Nat.le_of_ble_eq_true rfl) dX10_joined_26 (fun r2 M1 => ?_)
  refine v_iload_n (pc := 29) dX10_joined_29 rfl ?_
  refine v_iadd (pc := 30) dX10_joined_30 ?_
  refine v_ishr (pc := 31) dX10_joined_31 ?_
  refine v_iconst (pc := 32) 1 dX10_joined_32 (by decide) ?_
  refine v_iand (pc := 33) dX10_joined_33 ?_
  exact v_iret (pc := 34) dX10_joined_34
theorem wMd_joined_10 (l : Launch) (G : zG) (v0 : Int32) (v1 : Int32) (v2 : Int32) (vs0 : Int32) (M : zM) : zV eI l G zLY zRY 2 yX10_joined cX10_joined 5 (some .int) 10 [(0, .int v0), (1, .int v1), (2, .int v2)] [.int vs0] M (fMd_joined_10 v0 v1 v2 vs0 M) := by
  rw [fMd_joined_10]
  refine v_istore_n (pc := 10) dX10_joined_10 (by decide) ?_
  refine v_iload_n (pc := 11) dX10_joined_11 rfl ?_
  refine v_iload_n (pc := 12) dX10_joined_12 rfl ?_
  refine v_icmp_ge (pc := 13) 20 dX10_joined_13 (by decide) ?_ ?_
  · refine v_iload_n (pc := 20) dX10_joined_20 rfl ?_
    exact v_sub (wMd_joined_21 l G v0 vs0 v1 M) rfl
  · refine v_iload_n (pc := 16) dX10_joined_16 rfl ?_
    refine v_goto (pc := 17) 21 dX10_joined_17 (by decide) ?_
    exact v_sub (wMd_joined_21 l G v0 vs0 v2 M) rfl
theorem wMd_joined (l : Launch) (G : zG) (v0 : Int32) (v1 : Int32) (v2 : Int32) (M : zM) : zV eI l G zLY zRY 2 yX10_joined cX10_joined 5 (some .int) 0 [(0, .int v0), (1, .int v1), (2, .int v2)] [] M (fMd_joined v0 v1 v2 M) := by
  rw [fMd_joined]
  refine v_iload_n (pc := 0) dX10_joined_0 rfl ?_
  refine v_iload_n (pc := 1) dX10_joined_1 rfl ?_
  refine v_icmp_ge (pc := 2) 9 dX10_joined_2 (by decide) ?_ ?_
  · refine v_iload_n (pc := 9) dX10_joined_9 rfl ?_
    exact v_sub (wMd_joined_10 l G v0 v1 v2 v2 M) rfl
  · refine v_iload_n (pc := 5) dX10_joined_5 rfl ?_
    refine v_goto (pc := 6) 10 dX10_joined_6 (by decide) ?_
    exact v_sub (wMd_joined_10 l G v0 v1 v2 v1 M) rfl
theorem cMd_joined (l : Launch) (G : zG) (v0 : Int32) (v1 : Int32) (v2 : Int32) (M : zM) : zC eI l G zLY zRY 2 yX10_joined cX10_joined 5 (some .int) [.int v0, .int v1, .int v2] M (fMd_joined v0 v1 v2 M) := zC.of (by decide) (Nat.le_of_ble_eq_true rfl) (v_sub (wMd_joined l G v0 v1 v2 M) rfl)
theorem dX10_isPick_0 : decode cX10_isPick 0 = .ok (.iload 5, 2) := by decide +kernel
theorem dX10_isPick_2 : decode cX10_isPick 2 = .ok (.istore 6, 2) := by decide +kernel
theorem dX10_isPick_4 : decode cX10_isPick 4 = .ok (.iconst 1, 1) := by decide +kernel
theorem dX10_isPick_5 : decode cX10_isPick 5 = .ok (.istore 7, 2) := by decide +kernel
theorem dX10_isPick_7 : decode cX10_isPick 7 = .ok (.iconst 0, 1) := by decide +kernel
theorem dX10_isPick_8 : decode cX10_isPick 8 = .ok (.istore 8, 2) := by decide +kernel
theorem dX10_isPick_10 : decode cX10_isPick 10 = .ok (.iload 8, 2) := by decide +kernel
theorem dX10_isPick_12 : decode cX10_isPick 12 = .ok (.iload_n 3, 1) := by decide +kernel
theorem dX10_isPick_13 : decode cX10_isPick 13 = .ok (.if_icmp .ge 101, 3) := by decide +kernel
theorem dX10_isPick_16 : decode cX10_isPick 16 = .ok (.aload_n 0, 1) := by decide +kernel
theorem dX10_isPick_17 : decode cX10_isPick 17 = .ok (.getfield 80, 3) := by decide +kernel
theorem dX10_isPick_20 : decode cX10_isPick 20 = .ok (.iload 8, 2) := by decide +kernel
theorem dX10_isPick_22 : decode cX10_isPick 22 = .ok (.iload 6, 2) := by decide +kernel
theorem dX10_isPick_24 : decode cX10_isPick 24 = .ok (.iload_n 1, 1) := by decide +kernel
theorem dX10_isPick_25 : decode cX10_isPick 25 = .ok (.irem, 1) := by decide +kernel
theorem dX10_isPick_26 : decode cX10_isPick 26 = .ok (.iastore, 1) := by decide +kernel
theorem dX10_isPick_27 : decode cX10_isPick 27 = .ok (.iload 6, 2) := by decide +kernel
theorem dX10_isPick_29 : decode cX10_isPick 29 = .ok (.iload_n 1, 1) := by decide +kernel
theorem dX10_isPick_30 : decode cX10_isPick 30 = .ok (.idiv, 1) := by decide +kernel
theorem dX10_isPick_31 : decode cX10_isPick 31 = .ok (.istore 6, 2) := by decide +kernel
theorem dX10_isPick_33 : decode cX10_isPick 33 = .ok (.iconst 0, 1) := by decide +kernel
theorem dX10_isPick_34 : decode cX10_isPick 34 = .ok (.istore 9, 2) := by decide +kernel
theorem dX10_isPick_36 : decode cX10_isPick 36 = .ok (.iload 9, 2) := by decide +kernel
theorem dX10_isPick_38 : decode cX10_isPick 38 = .ok (.iload 8, 2) := by decide +kernel
theorem dX10_isPick_40 : decode cX10_isPick 40 = .ok (.if_icmp .ge 68, 3) := by decide +kernel
theorem dX10_isPick_43 : decode cX10_isPick 43 = .ok (.iload 7, 2) := by decide +kernel
theorem dX10_isPick_45 : decode cX10_isPick 45 = .ok (.ifCond .eq 63, 3) := by decide +kernel
theorem dX10_isPick_48 : decode cX10_isPick 48 = .ok (.aload_n 0, 1) := by decide +kernel
theorem dX10_isPick_49 : decode cX10_isPick 49 = .ok (.getfield 80, 3) := by decide +kernel
theorem dX10_isPick_52 : decode cX10_isPick 52 = .ok (.iload 9, 2) := by decide +kernel
theorem dX10_isPick_54 : decode cX10_isPick 54 = .ok (.iaload, 1) := by decide +kernel
theorem dX10_isPick_55 : decode cX10_isPick 55 = .ok (.aload_n 0, 1) := by decide +kernel
theorem dX10_isPick_56 : decode cX10_isPick 56 = .ok (.getfield 80, 3) := by decide +kernel
theorem dX10_isPick_59 : decode cX10_isPick 59 = .ok (.iload 8, 2) := by decide +kernel
theorem dX10_isPick_61 : decode cX10_isPick 61 = .ok (.iaload, 1) := by decide +kernel
theorem dX10_isPick_62 : decode cX10_isPick 62 = .ok (.if_icmp .eq 37, 3) := by decide +kernel
theorem dX10_isPick_65 : decode cX10_isPick 65 = .ok (.iload_n 2, 1) := by decide +kernel
theorem dX10_isPick_66 : decode cX10_isPick 66 = .ok (.aload_n 0, 1) := by decide +kernel
theorem dX10_isPick_67 : decode cX10_isPick 67 = .ok (.getfield 80, 3) := by decide +kernel
theorem dX10_isPick_70 : decode cX10_isPick 70 = .ok (.iload 9, 2) := by decide +kernel
theorem dX10_isPick_72 : decode cX10_isPick 72 = .ok (.iaload, 1) := by decide +kernel
theorem dX10_isPick_73 : decode cX10_isPick 73 = .ok (.aload_n 0, 1) := by decide +kernel
theorem dX10_isPick_74 : decode cX10_isPick 74 = .ok (.getfield 80, 3) := by decide +kernel
theorem dX10_isPick_77 : decode cX10_isPick 77 = .ok (.iload 8, 2) := by decide +kernel
theorem dX10_isPick_79 : decode cX10_isPick 79 = .ok (.iaload, 1) := by decide +kernel
theorem dX10_isPick_80 : decode cX10_isPick 80 = .ok (.invokestatic 243, 3) := by decide +kernel
theorem dX10_isPick_83 : decode cX10_isPick 83 = .ok (.iload 4, 2) := by decide +kernel
theorem dX10_isPick_85 : decode cX10_isPick 85 = .ok (.iload 9, 2) := by decide +kernel
theorem dX10_isPick_87 : decode cX10_isPick 87 = .ok (.iload 8, 2) := by decide +kernel
theorem dX10_isPick_89 : decode cX10_isPick 89 = .ok (.invokestatic 243, 3) := by decide +kernel
theorem dX10_isPick_92 : decode cX10_isPick 92 = .ok (.if_icmp .ne 7, 3) := by decide +kernel
theorem dX10_isPick_95 : decode cX10_isPick 95 = .ok (.iconst 1, 1) := by decide +kernel
theorem dX10_isPick_96 : decode cX10_isPick 96 = .ok (.goto 4, 3) := by decide +kernel
theorem dX10_isPick_99 : decode cX10_isPick 99 = .ok (.iconst 0, 1) := by decide +kernel
theorem dX10_isPick_100 : decode cX10_isPick 100 = .ok (.istore 7, 2) := by decide +kernel
theorem dX10_isPick_102 : decode cX10_isPick 102 = .ok (.iinc 9 1, 3) := by decide +kernel
theorem dX10_isPick_105 : decode cX10_isPick 105 = .ok (.goto (-69), 3) := by decide +kernel
theorem dX10_isPick_108 : decode cX10_isPick 108 = .ok (.iinc 8 1, 3) := by decide +kernel
theorem dX10_isPick_111 : decode cX10_isPick 111 = .ok (.goto (-101), 3) := by decide +kernel
theorem dX10_isPick_114 : decode cX10_isPick 114 = .ok (.iload 7, 2) := by decide +kernel
theorem dX10_isPick_116 : decode cX10_isPick 116 = .ok (.ireturn, 1) := by decide +kernel
theorem wMd_isPick_36 (l : Launch) (G : zG) (k10 : Int32 → Int32 → Int32 → Int32 → Int32 → Int32 → Int32 → zM → Option (Int32 × zM)) (hk10 : ∀ (v1 : Int32) (v2 : Int32) (v3 : Int32) (v4 : Int32) (v6 : Int32) (v7 : Int32) (v8 : Int32) (M : zM), zV eI l G zLY zRY 3 yX10_isPick cX10_isPick 10 (some .boolean) 10 [(0, .ref 0), (1, .int v1), (2, .int v2), (3, .int v3), (4, .int v4), (6, .int v6), (7, .int v7), (8, .int v8)] [] M (k10 v1 v2 v3 v4 v6 v7 v8 M)) : ∀ (fuel : Nat) (v1 : Int32) (v2 : Int32) (v3 : Int32) (v4 : Int32) (v6 : Int32) (v7 : Int32) (v8 : Int32) (v9 : Int32) (M : zM), zV eI l G zLY zRY 3 yX10_isPick cX10_isPick 10 (some .boolean) 36 [(0, .ref 0), (1, .int v1), (2, .int v2), (3, .int v3), (4, .int v4), (6, .int v6), (7, .int v7), (8, .int v8), (9, .int v9)] [] M (fMd_isPick_36 k10 fuel v1 v2 v3 v4 v6 v7 v8 v9 M) := by
  intro fuel
  induction fuel with
  | zero => intro v1 v2 v3 v4 v6 v7 v8 v9 M; exact v_none
  | succ fuel ih =>
    intro v1 v2 v3 v4 v6 v7 v8 v9 M
    rw [fMd_isPick_36]
    refine v_iload (pc := 36) dX10_isPick_36 rfl ?_
    refine v_iload (pc := 38) dX10_isPick_38 rfl ?_
    refine v_icmp_ge (pc := 40) 108 dX10_isPick_40 (by decide) ?_ ?_
    · refine v_iinc (pc := 108) 1 dX10_isPick_108 rfl (by decide) (by decide) ?_
      refine v_goto (pc := 111) 10 dX10_isPick_111 (by decide) ?_
      exact v_sub (hk10 v1 v2 v3 v4 v6 v7 (v8 + 1) M) rfl
    · refine v_iload (pc := 43) dX10_isPick_43 rfl ?_
      refine v_if_eq (pc := 45) 108 dX10_isPick_45 (by decide) ?_ ?_
      · refine v_iinc (pc := 108) 1 dX10_isPick_108 rfl (by decide) (by decide) ?_
        refine v_goto (pc := 111) 10 dX10_isPick_111 (by decide) ?_
        exact v_sub (hk10 v1 v2 v3 v4 v6 v7 (v8 + 1) M) rfl
      · refine v_aload_n (pc := 48) dX10_isPick_48 rfl ?_
        refine v_getR (pc := 49) (q := 27) zk10 ly_0 rfl ry_0_27 tw_1053 dX10_isPick_49 ?_
        refine v_iload (pc := 52) dX10_isPick_52 rfl ?_
        refine v_iald (pc := 54) ly_24 dX10_isPick_54 (fun x1 => ?_)
        refine v_aload_n (pc := 55) dX10_isPick_55 rfl ?_
        refine v_getR (pc := 56) (q := 27) zk10 ly_0 rfl ry_0_27 tw_1053 dX10_isPick_56 ?_
        refine v_iload (pc := 59) dX10_isPick_59 rfl ?_
        refine v_iald (pc := 61) ly_24 dX10_isPick_61 (fun x2 => ?_)
        refine v_icmp_eq (pc := 62) 99 dX10_isPick_62 (by decide) ?_ ?_
        · refine v_iconst (pc := 99) 0 dX10_isPick_99 (by decide) ?_
          refine v_istore (pc := 100) dX10_isPick_100 (by decide) ?_
          refine v_iinc (pc := 102) 1 dX10_isPick_102 rfl (by decide) (by decide) ?_
          refine v_goto (pc := 105) 36 dX10_isPick_105 (by decide) ?_
          exact v_sub (ih v1 v2 v3 v4 v6 0 v8 (v9 + 1) M) rfl
        · refine v_iload_n (pc := 65) dX10_isPick_65 rfl ?_
          refine v_aload_n (pc := 66) dX10_isPick_66 rfl ?_
          refine v_getR (pc := 67) (q := 27) zk10 ly_0 rfl ry_0_27 tw_1053 dX10_isPick_67 ?_
          refine v_iload (pc := 70) dX10_isPick_70 rfl ?_
          refine v_iald (pc := 72) ly_24 dX10_isPick_72 (fun x3 => ?_)
          refine v_aload_n (pc := 73) dX10_isPick_73 rfl ?_
          refine v_getR (pc := 74) (q := 27) zk10 ly_0 rfl ry_0_27 tw_1053 dX10_isPick_74 ?_
          refine v_iload (pc := 77) dX10_isPick_77 rfl ?_
          refine v_iald (pc := 79) ly_24 dX10_isPick_79 (fun x4 => ?_)
          refine v_callS (pc := 80) (As := [.int v2, .int x3, .int x4]) (cMd_joined l G v2 x3 x4 M) zc_X10_joined tw_1393 (by decide) (Nat.le_of_ble_eq_true rfl) dX10_isPick_80 (fun r6 M5 => ?_)
          refine v_iload (pc := 83) dX10_isPick_83 rfl ?_
          refine v_iload (pc := 85) dX10_isPick_85 rfl ?_
          refine v_iload (pc := 87) dX10_isPick_87 rfl ?_
          refine v_callS (pc := 89) (As := [.int v4, .int v9, .int v8]) (cMd_joined l G v4 v9 v8 M5) zc_X10_joined tw_1393 (by decide) (Nat.le_of_ble_eq_true rfl) dX10_isPick_89 (fun r8 M7 => ?_)
          refine v_icmp_ne (pc := 92) 99 dX10_isPick_92 (by decide) ?_ ?_
          · refine v_iconst (pc := 99) 0 dX10_isPick_99 (by decide) ?_
            refine v_istore (pc := 100) dX10_isPick_100 (by decide) ?_
            refine v_iinc (pc := 102) 1 dX10_isPick_102 rfl (by decide) (by decide) ?_
            refine v_goto (pc := 105) 36 dX10_isPick_105 (by decide) ?_
            exact v_sub (ih v1 v2 v3 v4 v6 0 v8 (v9 + 1) M7) rfl
          · refine v_iconst (pc := 95) 1 dX10_isPick_95 (by decide) ?_
            refine v_goto (pc := 96) 100 dX10_isPick_96 (by decide) ?_
            refine v_istore (pc := 100) dX10_isPick_100 (by decide) ?_
            refine v_iinc (pc := 102) 1 dX10_isPick_102 rfl (by decide) (by decide) ?_
            refine v_goto (pc := 105) 36 dX10_isPick_105 (by decide) ?_
            exact v_sub (ih v1 v2 v3 v4 v6 1 v8 (v9 + 1) M7) rfl
theorem wMd_isPick_10 (l : Launch) (G : zG) : ∀ (fuel : Nat) (v1 : Int32) (v2 : Int32) (v3 : Int32) (v4 : Int32) (v6 : Int32) (v7 : Int32) (v8 : Int32) (M : zM), zV eI l G zLY zRY 3 yX10_isPick cX10_isPick 10 (some .boolean) 10 [(0, .ref 0), (1, .int v1), (2, .int v2), (3, .int v3), (4, .int v4), (6, .int v6), (7, .int v7), (8, .int v8)] [] M (fMd_isPick_10 fuel v1 v2 v3 v4 v6 v7 v8 M) := by
  intro fuel
  induction fuel with
  | zero => intro v1 v2 v3 v4 v6 v7 v8 M; exact v_none
  | succ fuel ih =>
    intro v1 v2 v3 v4 v6 v7 v8 M
    rw [fMd_isPick_10]
    refine v_iload (pc := 10) dX10_isPick_10 rfl ?_
    refine v_iload_n (pc := 12) dX10_isPick_12 rfl ?_
    refine v_icmp_ge (pc := 13) 114 dX10_isPick_13 (by decide) ?_ ?_
    · refine v_iload (pc := 114) dX10_isPick_114 rfl ?_
      exact v_zret (pc := 116) dX10_isPick_116
    · refine v_aload_n (pc := 16) dX10_isPick_16 rfl ?_
      refine v_getR (pc := 17) (q := 27) zk10 ly_0 rfl ry_0_27 tw_1053 dX10_isPick_17 ?_
      refine v_iload (pc := 20) dX10_isPick_20 rfl ?_
      refine v_iload (pc := 22) dX10_isPick_22 rfl ?_
      refine v_iload_n (pc := 24) dX10_isPick_24 rfl ?_
      refine v_irem (pc := 25) dX10_isPick_25 (fun z1 => ?_)
      refine v_iast (pc := 26) ly_24 dX10_isPick_26 (fun M2 => ?_)
      refine v_iload (pc := 27) dX10_isPick_27 rfl ?_
      refine v_iload_n (pc := 29) dX10_isPick_29 rfl ?_
      refine v_idiv (pc := 30) dX10_isPick_30 (fun z3 => ?_)
      refine v_istore (pc := 31) dX10_isPick_31 (by decide) ?_
      refine v_iconst (pc := 33) 0 dX10_isPick_33 (by decide) ?_
      refine v_istore (pc := 34) dX10_isPick_34 (by decide) ?_
      exact v_sub (wMd_isPick_36 l G (fMd_isPick_10 fuel) ih FU v1 v2 v3 v4 z3 v7 v8 0 M2) rfl
theorem wMd_isPick (l : Launch) (G : zG) (v1 : Int32) (v2 : Int32) (v3 : Int32) (v4 : Int32) (v5 : Int32) (M : zM) : zV eI l G zLY zRY 3 yX10_isPick cX10_isPick 10 (some .boolean) 0 [(0, .ref 0), (1, .int v1), (2, .int v2), (3, .int v3), (4, .int v4), (5, .int v5)] [] M (fMd_isPick v1 v2 v3 v4 v5 M) := by
  rw [fMd_isPick]
  refine v_iload (pc := 0) dX10_isPick_0 rfl ?_
  refine v_istore (pc := 2) dX10_isPick_2 (by decide) ?_
  refine v_iconst (pc := 4) 1 dX10_isPick_4 (by decide) ?_
  refine v_istore (pc := 5) dX10_isPick_5 (by decide) ?_
  refine v_iconst (pc := 7) 0 dX10_isPick_7 (by decide) ?_
  refine v_istore (pc := 8) dX10_isPick_8 (by decide) ?_
  exact v_sub (wMd_isPick_10 l G FU v1 v2 v3 v4 v5 1 0 M) rfl
theorem cMd_isPick (l : Launch) (G : zG) (v1 : Int32) (v2 : Int32) (v3 : Int32) (v4 : Int32) (v5 : Int32) (M : zM) : zC eI l G zLY zRY 3 yX10_isPick cX10_isPick 10 (some .boolean) [.ref 0, .int v1, .int v2, .int v3, .int v4, .int v5] M (fMd_isPick v1 v2 v3 v4 v5 M) := zC.of (by decide) (Nat.le_of_ble_eq_true rfl) (v_sub (wMd_isPick l G v1 v2 v3 v4 v5 M) rfl)
theorem dX10_holdsOne_0 : decode cX10_holdsOne 0 = .ok (.iconst 1, 1) := by decide +kernel
theorem dX10_holdsOne_1 : decode cX10_holdsOne 1 = .ok (.istore 5, 2) := by decide +kernel
theorem dX10_holdsOne_3 : decode cX10_holdsOne 3 = .ok (.iconst 0, 1) := by decide +kernel
theorem dX10_holdsOne_4 : decode cX10_holdsOne 4 = .ok (.istore 6, 2) := by decide +kernel
theorem dX10_holdsOne_6 : decode cX10_holdsOne 6 = .ok (.iload 6, 2) := by decide +kernel
theorem dX10_holdsOne_8 : decode cX10_holdsOne 8 = .ok (.iload_n 3, 1) := by decide +kernel
theorem dX10_holdsOne_9 : decode cX10_holdsOne 9 = .ok (.if_icmp .ge 15, 3) := by decide +kernel
theorem dX10_holdsOne_12 : decode cX10_holdsOne 12 = .ok (.iload 5, 2) := by decide +kernel
theorem dX10_holdsOne_14 : decode cX10_holdsOne 14 = .ok (.iload_n 1, 1) := by decide +kernel
theorem dX10_holdsOne_15 : decode cX10_holdsOne 15 = .ok (.imul, 1) := by decide +kernel
theorem dX10_holdsOne_16 : decode cX10_holdsOne 16 = .ok (.istore 5, 2) := by decide +kernel
theorem dX10_holdsOne_18 : decode cX10_holdsOne 18 = .ok (.iinc 6 1, 3) := by decide +kernel
theorem dX10_holdsOne_21 : decode cX10_holdsOne 21 = .ok (.goto (-15), 3) := by decide +kernel
theorem dX10_holdsOne_24 : decode cX10_holdsOne 24 = .ok (.iconst 0, 1) := by decide +kernel
theorem dX10_holdsOne_25 : decode cX10_holdsOne 25 = .ok (.istore 6, 2) := by decide +kernel
theorem dX10_holdsOne_27 : decode cX10_holdsOne 27 = .ok (.iconst 0, 1) := by decide +kernel
theorem dX10_holdsOne_28 : decode cX10_holdsOne 28 = .ok (.istore 7, 2) := by decide +kernel
theorem dX10_holdsOne_30 : decode cX10_holdsOne 30 = .ok (.iload 7, 2) := by decide +kernel
theorem dX10_holdsOne_32 : decode cX10_holdsOne 32 = .ok (.iload 5, 2) := by decide +kernel
theorem dX10_holdsOne_34 : decode cX10_holdsOne 34 = .ok (.if_icmp .ge 27, 3) := by decide +kernel
theorem dX10_holdsOne_37 : decode cX10_holdsOne 37 = .ok (.iload 6, 2) := by decide +kernel
theorem dX10_holdsOne_39 : decode cX10_holdsOne 39 = .ok (.ifCond .ne 22, 3) := by decide +kernel
theorem dX10_holdsOne_42 : decode cX10_holdsOne 42 = .ok (.aload_n 0, 1) := by decide +kernel
theorem dX10_holdsOne_43 : decode cX10_holdsOne 43 = .ok (.iload_n 1, 1) := by decide +kernel
theorem dX10_holdsOne_44 : decode cX10_holdsOne 44 = .ok (.iload_n 2, 1) := by decide +kernel
theorem dX10_holdsOne_45 : decode cX10_holdsOne 45 = .ok (.iload_n 3, 1) := by decide +kernel
theorem dX10_holdsOne_46 : decode cX10_holdsOne 46 = .ok (.iload 4, 2) := by decide +kernel
theorem dX10_holdsOne_48 : decode cX10_holdsOne 48 = .ok (.iload 7, 2) := by decide +kernel
theorem dX10_holdsOne_50 : decode cX10_holdsOne 50 = .ok (.invokevirtual 246, 3) := by decide +kernel
theorem dX10_holdsOne_53 : decode cX10_holdsOne 53 = .ok (.istore 6, 2) := by decide +kernel
theorem dX10_holdsOne_55 : decode cX10_holdsOne 55 = .ok (.iinc 7 1, 3) := by decide +kernel
theorem dX10_holdsOne_58 : decode cX10_holdsOne 58 = .ok (.goto (-28), 3) := by decide +kernel
theorem dX10_holdsOne_61 : decode cX10_holdsOne 61 = .ok (.iload 6, 2) := by decide +kernel
theorem dX10_holdsOne_63 : decode cX10_holdsOne 63 = .ok (.ireturn, 1) := by decide +kernel
theorem wMd_holdsOne_30 (l : Launch) (G : zG) : ∀ (fuel : Nat) (v1 : Int32) (v2 : Int32) (v3 : Int32) (v4 : Int32) (v5 : Int32) (v6 : Int32) (v7 : Int32) (M : zM), zV eI l G zLY zRY 4 yX10_holdsOne cX10_holdsOne 8 (some .boolean) 30 [(0, .ref 0), (1, .int v1), (2, .int v2), (3, .int v3), (4, .int v4), (5, .int v5), (6, .int v6), (7, .int v7)] [] M (fMd_holdsOne_30 fuel v1 v2 v3 v4 v5 v6 v7 M) := by
  intro fuel
  induction fuel with
  | zero => intro v1 v2 v3 v4 v5 v6 v7 M; exact v_none
  | succ fuel ih =>
    intro v1 v2 v3 v4 v5 v6 v7 M
    rw [fMd_holdsOne_30]
    refine v_iload (pc := 30) dX10_holdsOne_30 rfl ?_
    refine v_iload (pc := 32) dX10_holdsOne_32 rfl ?_
    refine v_icmp_ge (pc := 34) 61 dX10_holdsOne_34 (by decide) ?_ ?_
    · refine v_iload (pc := 61) dX10_holdsOne_61 rfl ?_
      exact v_zret (pc := 63) dX10_holdsOne_63
    · refine v_iload (pc := 37) dX10_holdsOne_37 rfl ?_
      refine v_if_ne (pc := 39) 61 dX10_holdsOne_39 (by decide) ?_ ?_
      · refine v_iload (pc := 61) dX10_holdsOne_61 rfl ?_
        exact v_zret (pc := 63) dX10_holdsOne_63
      · refine v_aload_n (pc := 42) dX10_holdsOne_42 rfl ?_
        refine v_iload_n (pc := 43) dX10_holdsOne_43 rfl ?_
        refine v_iload_n (pc := 44) dX10_holdsOne_44 rfl ?_
        refine v_iload_n (pc := 45) dX10_holdsOne_45 rfl ?_
        refine v_iload (pc := 46) dX10_holdsOne_46 rfl ?_
        refine v_iload (pc := 48) dX10_holdsOne_48 rfl ?_
        refine v_callV (pc := 50) (As := [.int v1, .int v2, .int v3, .int v4, .int v7]) (cMd_isPick l G v1 v2 v3 v4 v7 M) zc_X10_isPick zk10 rfl ly_0 tw_1389 (by decide) (Nat.le_of_ble_eq_true rfl) dX10_holdsOne_50 (fun r2 M1 => ?_)
        refine v_istore (pc := 53) dX10_holdsOne_53 (by decide) ?_
        refine v_iinc (pc := 55) 1 dX10_holdsOne_55 rfl (by decide) (by decide) ?_
        refine v_goto (pc := 58) 30 dX10_holdsOne_58 (by decide) ?_
        exact v_sub (ih v1 v2 v3 v4 v5 r2 (v7 + 1) M1) rfl
theorem wMd_holdsOne_6 (l : Launch) (G : zG) : ∀ (fuel : Nat) (v1 : Int32) (v2 : Int32) (v3 : Int32) (v4 : Int32) (v5 : Int32) (v6 : Int32) (M : zM), zV eI l G zLY zRY 4 yX10_holdsOne cX10_holdsOne 8 (some .boolean) 6 [(0, .ref 0), (1, .int v1), (2, .int v2), (3, .int v3), (4, .int v4), (5, .int v5), (6, .int v6)] [] M (fMd_holdsOne_6 fuel v1 v2 v3 v4 v5 v6 M) := by
  intro fuel
  induction fuel with
  | zero => intro v1 v2 v3 v4 v5 v6 M; exact v_none
  | succ fuel ih =>
    intro v1 v2 v3 v4 v5 v6 M
    rw [fMd_holdsOne_6]
    refine v_iload (pc := 6) dX10_holdsOne_6 rfl ?_
    refine v_iload_n (pc := 8) dX10_holdsOne_8 rfl ?_
    refine v_icmp_ge (pc := 9) 24 dX10_holdsOne_9 (by decide) ?_ ?_
    · refine v_iconst (pc := 24) 0 dX10_holdsOne_24 (by decide) ?_
      refine v_istore (pc := 25) dX10_holdsOne_25 (by decide) ?_
      refine v_iconst (pc := 27) 0 dX10_holdsOne_27 (by decide) ?_
      refine v_istore (pc := 28) dX10_holdsOne_28 (by decide) ?_
      exact v_sub (wMd_holdsOne_30 l G FU v1 v2 v3 v4 v5 0 0 M) rfl
    · refine v_iload (pc := 12) dX10_holdsOne_12 rfl ?_
      refine v_iload_n (pc := 14) dX10_holdsOne_14 rfl ?_
      refine v_imul (pc := 15) dX10_holdsOne_15 ?_
      refine v_istoreL (pc := 16) dX10_holdsOne_16 (by decide) (fun u5_16 => ?_)
      refine v_iinc (pc := 18) 1 dX10_holdsOne_18 rfl (by decide) (by decide) ?_
      refine v_goto (pc := 21) 6 dX10_holdsOne_21 (by decide) ?_
      exact v_sub (ih v1 v2 v3 v4 u5_16 (v6 + 1) M) rfl
theorem wMd_holdsOne (l : Launch) (G : zG) (v1 : Int32) (v2 : Int32) (v3 : Int32) (v4 : Int32) (M : zM) : zV eI l G zLY zRY 4 yX10_holdsOne cX10_holdsOne 8 (some .boolean) 0 [(0, .ref 0), (1, .int v1), (2, .int v2), (3, .int v3), (4, .int v4)] [] M (fMd_holdsOne v1 v2 v3 v4 M) := by
  rw [fMd_holdsOne]
  refine v_iconst (pc := 0) 1 dX10_holdsOne_0 (by decide) ?_
  refine v_istore (pc := 1) dX10_holdsOne_1 (by decide) ?_
  refine v_iconst (pc := 3) 0 dX10_holdsOne_3 (by decide) ?_
  refine v_istore (pc := 4) dX10_holdsOne_4 (by decide) ?_
  exact v_sub (wMd_holdsOne_6 l G FU v1 v2 v3 v4 1 0 M) rfl
theorem cMd_holdsOne (l : Launch) (G : zG) (v1 : Int32) (v2 : Int32) (v3 : Int32) (v4 : Int32) (M : zM) : zC eI l G zLY zRY 4 yX10_holdsOne cX10_holdsOne 8 (some .boolean) [.ref 0, .int v1, .int v2, .int v3, .int v4] M (fMd_holdsOne v1 v2 v3 v4 M) := zC.of (by decide) (Nat.le_of_ble_eq_true rfl) (v_sub (wMd_holdsOne l G v1 v2 v3 v4 M) rfl)
theorem dX10_holds_0 : decode cX10_holds 0 = .ok (.iload_n 1, 1) := by decide +kernel
theorem dX10_holds_1 : decode cX10_holds 1 = .ok (.i2l, 1) := by decide +kernel
theorem dX10_holds_2 : decode cX10_holds 2 = .ok (.lconst 1, 1) := by decide +kernel
theorem dX10_holds_3 : decode cX10_holds 3 = .ok (.ldc2_w 250, 3) := by decide +kernel
theorem dX10_holds_6 : decode cX10_holds 6 = .ok (.invokestatic 102, 3) := by decide +kernel
theorem dX10_holds_9 : decode cX10_holds 9 = .ok (.ifCond .eq 52, 3) := by decide +kernel
theorem dX10_holds_12 : decode cX10_holds 12 = .ok (.iload_n 3, 1) := by decide +kernel
theorem dX10_holds_13 : decode cX10_holds 13 = .ok (.i2l, 1) := by decide +kernel
theorem dX10_holds_14 : decode cX10_holds 14 = .ok (.lconst 1, 1) := by decide +kernel
theorem dX10_holds_15 : decode cX10_holds 15 = .ok (.ldc2_w 250, 3) := by decide +kernel
theorem dX10_holds_18 : decode cX10_holds 18 = .ok (.invokestatic 102, 3) := by decide +kernel
theorem dX10_holds_21 : decode cX10_holds 21 = .ok (.ifCond .eq 40, 3) := by decide +kernel
theorem dX10_holds_24 : decode cX10_holds 24 = .ok (.iload_n 2, 1) := by decide +kernel
theorem dX10_holds_25 : decode cX10_holds 25 = .ok (.i2l, 1) := by decide +kernel
theorem dX10_holds_26 : decode cX10_holds 26 = .ok (.lconst 0, 1) := by decide +kernel
theorem dX10_holds_27 : decode cX10_holds 27 = .ok (.iconst 1, 1) := by decide +kernel
theorem dX10_holds_28 : decode cX10_holds 28 = .ok (.iload_n 1, 1) := by decide +kernel
theorem dX10_holds_29 : decode cX10_holds 29 = .ok (.invokestatic 240, 3) := by decide +kernel
theorem dX10_holds_32 : decode cX10_holds 32 = .ok (.ishl, 1) := by decide +kernel
theorem dX10_holds_33 : decode cX10_holds 33 = .ok (.iconst 1, 1) := by decide +kernel
theorem dX10_holds_34 : decode cX10_holds 34 = .ok (.isub, 1) := by decide +kernel
theorem dX10_holds_35 : decode cX10_holds 35 = .ok (.i2l, 1) := by decide +kernel
theorem dX10_holds_36 : decode cX10_holds 36 = .ok (.invokestatic 102, 3) := by decide +kernel
theorem dX10_holds_39 : decode cX10_holds 39 = .ok (.ifCond .eq 22, 3) := by decide +kernel
theorem dX10_holds_42 : decode cX10_holds 42 = .ok (.iload 4, 2) := by decide +kernel
theorem dX10_holds_44 : decode cX10_holds 44 = .ok (.i2l, 1) := by decide +kernel
theorem dX10_holds_45 : decode cX10_holds 45 = .ok (.lconst 0, 1) := by decide +kernel
theorem dX10_holds_46 : decode cX10_holds 46 = .ok (.iconst 1, 1) := by decide +kernel
theorem dX10_holds_47 : decode cX10_holds 47 = .ok (.iload_n 3, 1) := by decide +kernel
theorem dX10_holds_48 : decode cX10_holds 48 = .ok (.invokestatic 240, 3) := by decide +kernel
theorem dX10_holds_51 : decode cX10_holds 51 = .ok (.ishl, 1) := by decide +kernel
theorem dX10_holds_52 : decode cX10_holds 52 = .ok (.iconst 1, 1) := by decide +kernel
theorem dX10_holds_53 : decode cX10_holds 53 = .ok (.isub, 1) := by decide +kernel
theorem dX10_holds_54 : decode cX10_holds 54 = .ok (.i2l, 1) := by decide +kernel
theorem dX10_holds_55 : decode cX10_holds 55 = .ok (.invokestatic 102, 3) := by decide +kernel
theorem dX10_holds_58 : decode cX10_holds 58 = .ok (.ifCond .ne 7, 3) := by decide +kernel
theorem dX10_holds_61 : decode cX10_holds 61 = .ok (.sipush (-1002), 3) := by decide +kernel
theorem dX10_holds_64 : decode cX10_holds 64 = .ok (.ireturn, 1) := by decide +kernel
theorem dX10_holds_65 : decode cX10_holds 65 = .ok (.aload_n 0, 1) := by decide +kernel
theorem dX10_holds_66 : decode cX10_holds 66 = .ok (.iload_n 1, 1) := by decide +kernel
theorem dX10_holds_67 : decode cX10_holds 67 = .ok (.iload_n 2, 1) := by decide +kernel
theorem dX10_holds_68 : decode cX10_holds 68 = .ok (.iload_n 3, 1) := by decide +kernel
theorem dX10_holds_69 : decode cX10_holds 69 = .ok (.iload 4, 2) := by decide +kernel
theorem dX10_holds_71 : decode cX10_holds 71 = .ok (.invokevirtual 252, 3) := by decide +kernel
theorem dX10_holds_74 : decode cX10_holds 74 = .ok (.invokestatic 109, 3) := by decide +kernel
theorem dX10_holds_77 : decode cX10_holds 77 = .ok (.ireturn, 1) := by decide +kernel
theorem wMd_holds (l : Launch) (G : zG) (v1 : Int32) (v2 : Int32) (v3 : Int32) (v4 : Int32) (M : zM) : zV eI l G zLY zRY 5 yX10_holds cX10_holds 5 (some .int) 0 [(0, .ref 0), (1, .int v1), (2, .int v2), (3, .int v3), (4, .int v4)] [] M (fMd_holds v1 v2 v3 v4 M) := by
  rw [fMd_holds]
  refine v_iload_n (pc := 0) dX10_holds_0 rfl ?_
  refine v_i2l (pc := 1) dX10_holds_1 ?_
  refine v_lconst (pc := 2) 1 dX10_holds_2 (by decide) ?_
  refine v_ldc2 (pc := 3) 5 tw_1381 dX10_holds_3 ?_
  refine v_callS (pc := 6) (As := [.long v1.toInt64, .long 1, .long 5]) (cMd_in l G v1.toInt64 1 5 M) zc_X10_in tw_1153 (by decide) (Nat.le_of_ble_eq_true rfl) dX10_holds_6 (fun r2 M1 => ?_)
  refine v_if_eq (pc := 9) 61 dX10_holds_9 (by decide) ?_ ?_
  · refine v_sipush (pc := 61) (-1002) dX10_holds_61 (by decide) ?_
    exact v_iret (pc := 64) dX10_holds_64
  · refine v_iload_n (pc := 12) dX10_holds_12 rfl ?_
    refine v_i2l (pc := 13) dX10_holds_13 ?_
    refine v_lconst (pc := 14) 1 dX10_holds_14 (by decide) ?_
    refine v_ldc2 (pc := 15) 5 tw_1381 dX10_holds_15 ?_
    refine v_callS (pc := 18) (As := [.long v3.toInt64, .long 1, .long 5]) (cMd_in l G v3.toInt64 1 5 M1) zc_X10_in tw_1153 (by decide) (Nat.le_of_ble_eq_true rfl) dX10_holds_18 (fun r4 M3 => ?_)
    refine v_if_eq (pc := 21) 61 dX10_holds_21 (by decide) ?_ ?_
    · refine v_sipush (pc := 61) (-1002) dX10_holds_61 (by decide) ?_
      exact v_iret (pc := 64) dX10_holds_64
    · refine v_iload_n (pc := 24) dX10_holds_24 rfl ?_
      refine v_i2l (pc := 25) dX10_holds_25 ?_
      refine v_lconst (pc := 26) 0 dX10_holds_26 (by decide) ?_
      refine v_iconst (pc := 27) 1 dX10_holds_27 (by decide) ?_
      refine v_iload_n (pc := 28) dX10_holds_28 rfl ?_
      refine v_callS (pc := 29) (As := [.int v1]) (cMd_pairs l G v1 M3) zc_X10_pairs tw_1382 (by decide) (Nat.le_of_ble_eq_true rfl) dX10_holds_29 (fun r6 M5 => ?_)
      refine v_ishl (pc := 32) dX10_holds_32 ?_
      refine v_iconst (pc := 33) 1 dX10_holds_33 (by decide) ?_
      refine v_isub (pc := 34) dX10_holds_34 ?_
      refine v_i2l (pc := 35) dX10_holds_35 ?_
      refine v_callS (pc := 36) (As := [.long v2.toInt64, .long 0, .long (((zshl 1 r6) - 1).toInt64)]) (cMd_in l G v2.toInt64 0 (((zshl 1 r6) - 1).toInt64) M5) zc_X10_in tw_1153 (by decide) (Nat.le_of_ble_eq_true rfl) dX10_holds_36 (fun r8 M7 => ?_)
      refine v_if_eq (pc := 39) 61 dX10_holds_39 (by decide) ?_ ?_
      · refine v_sipush (pc := 61) (-1002) dX10_holds_61 (by decide) ?_
        exact v_iret (pc := 64) dX10_holds_64
      · refine v_iload (pc := 42) dX10_holds_42 rfl ?_
        refine v_i2l (pc := 44) dX10_holds_44 ?_
        refine v_lconst (pc := 45) 0 dX10_holds_45 (by decide) ?_
        refine v_iconst (pc := 46) 1 dX10_holds_46 (by decide) ?_
        refine v_iload_n (pc := 47) dX10_holds_47 rfl ?_
        refine v_callS (pc := 48) (As := [.int v3]) (cMd_pairs l G v3 M7) zc_X10_pairs tw_1382 (by decide) (Nat.le_of_ble_eq_true rfl) dX10_holds_48 (fun r10 M9 => ?_)
        refine v_ishl (pc := 51) dX10_holds_51 ?_
        refine v_iconst (pc := 52) 1 dX10_holds_52 (by decide) ?_
        refine v_isub (pc := 53) dX10_holds_53 ?_
        refine v_i2l (pc := 54) dX10_holds_54 ?_
        refine v_callS (pc := 55) (As := [.long v4.toInt64, .long 0, .long (((zshl 1 r10) - 1).toInt64)]) (cMd_in l G v4.toInt64 0 (((zshl 1 r10) - 1).toInt64) M9) zc_X10_in tw_1153 (by decide) (Nat.le_of_ble_eq_true rfl) dX10_holds_55 (fun r12 M11 => ?_)
        refine v_if_ne (pc := 58) 65 dX10_holds_58 (by decide) ?_ ?_
        · refine v_aload_n (pc := 65) dX10_holds_65 rfl ?_
          refine v_iload_n (pc := 66) dX10_holds_66 rfl ?_
          refine v_iload_n (pc := 67) dX10_holds_67 rfl ?_
          refine v_iload_n (pc := 68) dX10_holds_68 rfl ?_
          refine v_iload (pc := 69) dX10_holds_69 rfl ?_
          refine v_callV (pc := 71) (As := [.int v1, .int v2, .int v3, .int v4]) (cMd_holdsOne l G v1 v2 v3 v4 M11) zc_X10_holdsOne zk10 rfl ly_0 tw_1385 (by decide) (Nat.le_of_ble_eq_true rfl) dX10_holds_71 (fun r14 M13 => ?_)
          refine v_callS (pc := 74) (As := [.int r14]) (cMd_bit l G r14 M13) zc_X10_bit tw_1196 (by decide) (Nat.le_of_ble_eq_true rfl) dX10_holds_74 (fun r16 M15 => ?_)
          exact v_iret (pc := 77) dX10_holds_77
        · refine v_sipush (pc := 61) (-1002) dX10_holds_61 (by decide) ?_
          exact v_iret (pc := 64) dX10_holds_64
theorem cMd_holds (l : Launch) (G : zG) (v1 : Int32) (v2 : Int32) (v3 : Int32) (v4 : Int32) (M : zM) : zC eI l G zLY zRY 5 yX10_holds cX10_holds 5 (some .int) [.ref 0, .int v1, .int v2, .int v3, .int v4] M (fMd_holds v1 v2 v3 v4 M) := zC.of (by decide) (Nat.le_of_ble_eq_true rfl) (v_sub (wMd_holds l G v1 v2 v3 v4 M) rfl)
theorem dX10_isUniversal_0 : decode cX10_isUniversal 0 = .ok (.iconst 1, 1) := by decide +kernel
theorem dX10_isUniversal_1 : decode cX10_isUniversal 1 = .ok (.istore 4, 2) := by decide +kernel
theorem dX10_isUniversal_3 : decode cX10_isUniversal 3 = .ok (.iconst 0, 1) := by decide +kernel
theorem dX10_isUniversal_4 : decode cX10_isUniversal 4 = .ok (.istore 5, 2) := by decide +kernel
theorem dX10_isUniversal_6 : decode cX10_isUniversal 6 = .ok (.iload 5, 2) := by decide +kernel
theorem dX10_isUniversal_8 : decode cX10_isUniversal 8 = .ok (.iconst 1, 1) := by decide +kernel
theorem dX10_isUniversal_9 : decode cX10_isUniversal 9 = .ok (.iload_n 1, 1) := by decide +kernel
theorem dX10_isUniversal_10 : decode cX10_isUniversal 10 = .ok (.invokestatic 240, 3) := by decide +kernel
theorem dX10_isUniversal_13 : decode cX10_isUniversal 13 = .ok (.ishl, 1) := by decide +kernel
theorem dX10_isUniversal_14 : decode cX10_isUniversal 14 = .ok (.if_icmp .ge 25, 3) := by decide +kernel
theorem dX10_isUniversal_17 : decode cX10_isUniversal 17 = .ok (.iload 4, 2) := by decide +kernel
theorem dX10_isUniversal_19 : decode cX10_isUniversal 19 = .ok (.ifCond .eq 20, 3) := by decide +kernel
theorem dX10_isUniversal_22 : decode cX10_isUniversal 22 = .ok (.aload_n 0, 1) := by decide +kernel
theorem dX10_isUniversal_23 : decode cX10_isUniversal 23 = .ok (.iload_n 2, 1) := by decide +kernel
theorem dX10_isUniversal_24 : decode cX10_isUniversal 24 = .ok (.iload_n 3, 1) := by decide +kernel
theorem dX10_isUniversal_25 : decode cX10_isUniversal 25 = .ok (.iload_n 1, 1) := by decide +kernel
theorem dX10_isUniversal_26 : decode cX10_isUniversal 26 = .ok (.iload 5, 2) := by decide +kernel
theorem dX10_isUniversal_28 : decode cX10_isUniversal 28 = .ok (.invokevirtual 252, 3) := by decide +kernel
theorem dX10_isUniversal_31 : decode cX10_isUniversal 31 = .ok (.istore 4, 2) := by decide +kernel
theorem dX10_isUniversal_33 : decode cX10_isUniversal 33 = .ok (.iinc 5 1, 3) := by decide +kernel
theorem dX10_isUniversal_36 : decode cX10_isUniversal 36 = .ok (.goto (-30), 3) := by decide +kernel
theorem dX10_isUniversal_39 : decode cX10_isUniversal 39 = .ok (.iload 4, 2) := by decide +kernel
theorem dX10_isUniversal_41 : decode cX10_isUniversal 41 = .ok (.ireturn, 1) := by decide +kernel
theorem wMd_isUniversal_6 (l : Launch) (G : zG) : ∀ (fuel : Nat) (v1 : Int32) (v2 : Int32) (v3 : Int32) (v4 : Int32) (v5 : Int32) (M : zM), zV eI l G zLY zRY 5 yX10_isUniversal cX10_isUniversal 6 (some .boolean) 6 [(0, .ref 0), (1, .int v1), (2, .int v2), (3, .int v3), (4, .int v4), (5, .int v5)] [] M (fMd_isUniversal_6 fuel v1 v2 v3 v4 v5 M) := by
  intro fuel
  induction fuel with
  | zero => intro v1 v2 v3 v4 v5 M; exact v_none
  | succ fuel ih =>
    intro v1 v2 v3 v4 v5 M
    rw [fMd_isUniversal_6]
    refine v_iload (pc := 6) dX10_isUniversal_6 rfl ?_
    refine v_iconst (pc := 8) 1 dX10_isUniversal_8 (by decide) ?_
    refine v_iload_n (pc := 9) dX10_isUniversal_9 rfl ?_
    refine v_callS (pc := 10) (As := [.int v1]) (cMd_pairs l G v1 M) zc_X10_pairs tw_1382 (by decide) (Nat.le_of_ble_eq_true rfl) dX10_isUniversal_10 (fun r2 M1 => ?_)
    refine v_ishl (pc := 13) dX10_isUniversal_13 ?_
    refine v_icmp_ge (pc := 14) 39 dX10_isUniversal_14 (by decide) ?_ ?_
    · refine v_iload (pc := 39) dX10_isUniversal_39 rfl ?_
      exact v_zret (pc := 41) dX10_isUniversal_41
    · refine v_iload (pc := 17) dX10_isUniversal_17 rfl ?_
      refine v_if_eq (pc := 19) 39 dX10_isUniversal_19 (by decide) ?_ ?_
      · refine v_iload (pc := 39) dX10_isUniversal_39 rfl ?_
        exact v_zret (pc := 41) dX10_isUniversal_41
      · refine v_aload_n (pc := 22) dX10_isUniversal_22 rfl ?_
        refine v_iload_n (pc := 23) dX10_isUniversal_23 rfl ?_
        refine v_iload_n (pc := 24) dX10_isUniversal_24 rfl ?_
        refine v_iload_n (pc := 25) dX10_isUniversal_25 rfl ?_
        refine v_iload (pc := 26) dX10_isUniversal_26 rfl ?_
        refine v_callV (pc := 28) (As := [.int v2, .int v3, .int v1, .int v5]) (cMd_holdsOne l G v2 v3 v1 v5 M1) zc_X10_holdsOne zk10 rfl ly_0 tw_1385 (by decide) (Nat.le_of_ble_eq_true rfl) dX10_isUniversal_28 (fun r4 M3 => ?_)
        refine v_istore (pc := 31) dX10_isUniversal_31 (by decide) ?_
        refine v_iinc (pc := 33) 1 dX10_isUniversal_33 rfl (by decide) (by decide) ?_
        refine v_goto (pc := 36) 6 dX10_isUniversal_36 (by decide) ?_
        exact v_sub (ih v1 v2 v3 r4 (v5 + 1) M3) rfl
theorem wMd_isUniversal (l : Launch) (G : zG) (v1 : Int32) (v2 : Int32) (v3 : Int32) (M : zM) : zV eI l G zLY zRY 5 yX10_isUniversal cX10_isUniversal 6 (some .boolean) 0 [(0, .ref 0), (1, .int v1), (2, .int v2), (3, .int v3)] [] M (fMd_isUniversal v1 v2 v3 M) := by
  rw [fMd_isUniversal]
  refine v_iconst (pc := 0) 1 dX10_isUniversal_0 (by decide) ?_
  refine v_istore (pc := 1) dX10_isUniversal_1 (by decide) ?_
  refine v_iconst (pc := 3) 0 dX10_isUniversal_3 (by decide) ?_
  refine v_istore (pc := 4) dX10_isUniversal_4 (by decide) ?_
  exact v_sub (wMd_isUniversal_6 l G FU v1 v2 v3 1 0 M) rfl
theorem cMd_isUniversal (l : Launch) (G : zG) (v1 : Int32) (v2 : Int32) (v3 : Int32) (M : zM) : zC eI l G zLY zRY 5 yX10_isUniversal cX10_isUniversal 6 (some .boolean) [.ref 0, .int v1, .int v2, .int v3] M (fMd_isUniversal v1 v2 v3 M) := zC.of (by decide) (Nat.le_of_ble_eq_true rfl) (v_sub (wMd_isUniversal l G v1 v2 v3 M) rfl)
theorem dX10_universal_0 : decode cX10_universal 0 = .ok (.iload_n 1, 1) := by decide +kernel
theorem dX10_universal_1 : decode cX10_universal 1 = .ok (.i2l, 1) := by decide +kernel
theorem dX10_universal_2 : decode cX10_universal 2 = .ok (.lconst 1, 1) := by decide +kernel
theorem dX10_universal_3 : decode cX10_universal 3 = .ok (.ldc2_w 186, 3) := by decide +kernel
theorem dX10_universal_6 : decode cX10_universal 6 = .ok (.invokestatic 102, 3) := by decide +kernel
theorem dX10_universal_9 : decode cX10_universal 9 = .ok (.ifCond .eq 25, 3) := by decide +kernel
theorem dX10_universal_12 : decode cX10_universal 12 = .ok (.iload_n 2, 1) := by decide +kernel
theorem dX10_universal_13 : decode cX10_universal 13 = .ok (.i2l, 1) := by decide +kernel
theorem dX10_universal_14 : decode cX10_universal 14 = .ok (.lconst 1, 1) := by decide +kernel
theorem dX10_universal_15 : decode cX10_universal 15 = .ok (.ldc2_w 250, 3) := by decide +kernel
theorem dX10_universal_18 : decode cX10_universal 18 = .ok (.invokestatic 102, 3) := by decide +kernel
theorem dX10_universal_21 : decode cX10_universal 21 = .ok (.ifCond .eq 13, 3) := by decide +kernel
theorem dX10_universal_24 : decode cX10_universal 24 = .ok (.iload_n 3, 1) := by decide +kernel
theorem dX10_universal_25 : decode cX10_universal 25 = .ok (.i2l, 1) := by decide +kernel
theorem dX10_universal_26 : decode cX10_universal 26 = .ok (.lconst 0, 1) := by decide +kernel
theorem dX10_universal_27 : decode cX10_universal 27 = .ok (.lconst 1, 1) := by decide +kernel
theorem dX10_universal_28 : decode cX10_universal 28 = .ok (.invokestatic 102, 3) := by decide +kernel
theorem dX10_universal_31 : decode cX10_universal 31 = .ok (.ifCond .ne 7, 3) := by decide +kernel
theorem dX10_universal_34 : decode cX10_universal 34 = .ok (.sipush (-1002), 3) := by decide +kernel
theorem dX10_universal_37 : decode cX10_universal 37 = .ok (.ireturn, 1) := by decide +kernel
theorem dX10_universal_38 : decode cX10_universal 38 = .ok (.iconst 0, 1) := by decide +kernel
theorem dX10_universal_39 : decode cX10_universal 39 = .ok (.istore 4, 2) := by decide +kernel
theorem dX10_universal_41 : decode cX10_universal 41 = .ok (.iconst (-1), 1) := by decide +kernel
theorem dX10_universal_42 : decode cX10_universal 42 = .ok (.istore 5, 2) := by decide +kernel
theorem dX10_universal_44 : decode cX10_universal 44 = .ok (.iconst 0, 1) := by decide +kernel
theorem dX10_universal_45 : decode cX10_universal 45 = .ok (.istore 6, 2) := by decide +kernel
theorem dX10_universal_47 : decode cX10_universal 47 = .ok (.iload 6, 2) := by decide +kernel
theorem dX10_universal_49 : decode cX10_universal 49 = .ok (.iconst 1, 1) := by decide +kernel
theorem dX10_universal_50 : decode cX10_universal 50 = .ok (.iload_n 2, 1) := by decide +kernel
theorem dX10_universal_51 : decode cX10_universal 51 = .ok (.invokestatic 240, 3) := by decide +kernel
theorem dX10_universal_54 : decode cX10_universal 54 = .ok (.ishl, 1) := by decide +kernel
theorem dX10_universal_55 : decode cX10_universal 55 = .ok (.if_icmp .ge 37, 3) := by decide +kernel
theorem dX10_universal_58 : decode cX10_universal 58 = .ok (.aload_n 0, 1) := by decide +kernel
theorem dX10_universal_59 : decode cX10_universal 59 = .ok (.iload_n 1, 1) := by decide +kernel
theorem dX10_universal_60 : decode cX10_universal 60 = .ok (.iload_n 2, 1) := by decide +kernel
theorem dX10_universal_61 : decode cX10_universal 61 = .ok (.iload 6, 2) := by decide +kernel
theorem dX10_universal_63 : decode cX10_universal 63 = .ok (.invokevirtual 256, 3) := by decide +kernel
theorem dX10_universal_66 : decode cX10_universal 66 = .ok (.ifCond .eq 20, 3) := by decide +kernel
theorem dX10_universal_69 : decode cX10_universal 69 = .ok (.iload 5, 2) := by decide +kernel
theorem dX10_universal_71 : decode cX10_universal 71 = .ok (.ifCond .ge 8, 3) := by decide +kernel
theorem dX10_universal_74 : decode cX10_universal 74 = .ok (.iload 6, 2) := by decide +kernel
theorem dX10_universal_76 : decode cX10_universal 76 = .ok (.goto 5, 3) := by decide +kernel
theorem dX10_universal_79 : decode cX10_universal 79 = .ok (.iload 5, 2) := by decide +kernel
theorem dX10_universal_81 : decode cX10_universal 81 = .ok (.istore 5, 2) := by decide +kernel
theorem dX10_universal_83 : decode cX10_universal 83 = .ok (.iinc 4 1, 3) := by decide +kernel
theorem dX10_universal_86 : decode cX10_universal 86 = .ok (.iinc 6 1, 3) := by decide +kernel
theorem dX10_universal_89 : decode cX10_universal 89 = .ok (.goto (-42), 3) := by decide +kernel
theorem dX10_universal_92 : decode cX10_universal 92 = .ok (.iload_n 3, 1) := by decide +kernel
theorem dX10_universal_93 : decode cX10_universal 93 = .ok (.ifCond .ne 8, 3) := by decide +kernel
theorem dX10_universal_96 : decode cX10_universal 96 = .ok (.iload 4, 2) := by decide +kernel
theorem dX10_universal_98 : decode cX10_universal 98 = .ok (.goto 5, 3) := by decide +kernel
theorem dX10_universal_101 : decode cX10_universal 101 = .ok (.iload 5, 2) := by decide +kernel
theorem dX10_universal_103 : decode cX10_universal 103 = .ok (.ireturn, 1) := by decide +kernel
theorem wMd_universal_47 (l : Launch) (G : zG) : ∀ (fuel : Nat) (v1 : Int32) (v2 : Int32) (v3 : Int32) (v4 : Int32) (v5 : Int32) (v6 : Int32) (M : zM), zV eI l G zLY zRY 6 yX10_universal cX10_universal 7 (some .int) 47 [(0, .ref 0), (1, .int v1), (2, .int v2), (3, .int v3), (4, .int v4), (5, .int v5), (6, .int v6)] [] M (fMd_universal_47 fuel v1 v2 v3 v4 v5 v6 M) := by
  intro fuel
  induction fuel with
  | zero => intro v1 v2 v3 v4 v5 v6 M; exact v_none
  | succ fuel ih =>
    intro v1 v2 v3 v4 v5 v6 M
    rw [fMd_universal_47]
    refine v_iload (pc := 47) dX10_universal_47 rfl ?_
    refine v_iconst (pc := 49) 1 dX10_universal_49 (by decide) ?_
    refine v_iload_n (pc := 50) dX10_universal_50 rfl ?_
    refine v_callS (pc := 51) (As := [.int v2]) (cMd_pairs l G v2 M) zc_X10_pairs tw_1382 (by decide) (Nat.le_of_ble_eq_true rfl) dX10_universal_51 (fun r2 M1 => ?_)
    refine v_ishl (pc := 54) dX10_universal_54 ?_
    refine v_icmp_ge (pc := 55) 92 dX10_universal_55 (by decide) ?_ ?_
    · refine v_iload_n (pc := 92) dX10_universal_92 rfl ?_
      refine v_if_ne (pc := 93) 101 dX10_universal_93 (by decide) ?_ ?_
      · refine v_iload (pc := 101) dX10_universal_101 rfl ?_
        exact v_iret (pc := 103) dX10_universal_103
      · refine v_iload (pc := 96) dX10_universal_96 rfl ?_
        refine v_goto (pc := 98) 103 dX10_universal_98 (by decide) ?_
        exact v_iret (pc := 103) dX10_universal_103
    · refine v_aload_n (pc := 58) dX10_universal_58 rfl ?_
      refine v_iload_n (pc := 59) dX10_universal_59 rfl ?_
      refine v_iload_n (pc := 60) dX10_universal_60 rfl ?_
      refine v_iload (pc := 61) dX10_universal_61 rfl ?_
      refine v_callV (pc := 63) (As := [.int v1, .int v2, .int v6]) (cMd_isUniversal l G v1 v2 v6 M1) zc_X10_isUniversal zk10 rfl ly_0 tw_1400 (by decide) (Nat.le_of_ble_eq_true rfl) dX10_universal_63 (fun r4 M3 => ?_)
      refine v_if_eq (pc := 66) 86 dX10_universal_66 (by decide) ?_ ?_
      · refine v_iinc (pc := 86) 1 dX10_universal_86 rfl (by decide) (by decide) ?_
        refine v_goto (pc := 89) 47 dX10_universal_89 (by decide) ?_
        exact v_sub (ih v1 v2 v3 v4 v5 (v6 + 1) M3) rfl
      · refine v_iload (pc := 69) dX10_universal_69 rfl ?_
        refine v_if_ge (pc := 71) 79 dX10_universal_71 (by decide) ?_ ?_
        · refine v_iload (pc := 79) dX10_universal_79 rfl ?_
          refine v_istore (pc := 81) dX10_universal_81 (by decide) ?_
          refine v_iinc (pc := 83) 1 dX10_universal_83 rfl (by decide) (by decide) ?_
          refine v_iinc (pc := 86) 1 dX10_universal_86 rfl (by decide) (by decide) ?_
          refine v_goto (pc := 89) 47 dX10_universal_89 (by decide) ?_
          exact v_sub (ih v1 v2 v3 (v4 + 1) v5 (v6 + 1) M3) rfl
        · refine v_iload (pc := 74) dX10_universal_74 rfl ?_
          refine v_goto (pc := 76) 81 dX10_universal_76 (by decide) ?_
          refine v_istore (pc := 81) dX10_universal_81 (by decide) ?_
          refine v_iinc (pc := 83) 1 dX10_universal_83 rfl (by decide) (by decide) ?_
          refine v_iinc (pc := 86) 1 dX10_universal_86 rfl (by decide) (by decide) ?_
          refine v_goto (pc := 89) 47 dX10_universal_89 (by decide) ?_
          exact v_sub (ih v1 v2 v3 (v4 + 1) v6 (v6 + 1) M3) rfl
theorem wMd_universal (l : Launch) (G : zG) (v1 : Int32) (v2 : Int32) (v3 : Int32) (M : zM) : zV eI l G zLY zRY 6 yX10_universal cX10_universal 7 (some .int) 0 [(0, .ref 0), (1, .int v1), (2, .int v2), (3, .int v3)] [] M (fMd_universal v1 v2 v3 M) := by
  rw [fMd_universal]
  refine v_iload_n (pc := 0) dX10_universal_0 rfl ?_
  refine v_i2l (pc := 1) dX10_universal_1 ?_
  refine v_lconst (pc := 2) 1 dX10_universal_2 (by decide) ?_
  refine v_ldc2 (pc := 3) 3 tw_1231 dX10_universal_3 ?_
  refine v_callS (pc := 6) (As := [.long v1.toInt64, .long 1, .long 3]) (cMd_in l G v1.toInt64 1 3 M) zc_X10_in tw_1153 (by decide) (Nat.le_of_ble_eq_true rfl) dX10_universal_6 (fun r2 M1 => ?_)
  refine v_if_eq (pc := 9) 34 dX10_universal_9 (by decide) ?_ ?_
  · refine v_sipush (pc := 34) (-1002) dX10_universal_34 (by decide) ?_
    exact v_iret (pc := 37) dX10_universal_37
  · refine v_iload_n (pc := 12) dX10_universal_12 rfl ?_
    refine v_i2l (pc := 13) dX10_universal_13 ?_
    refine v_lconst (pc := 14) 1 dX10_universal_14 (by decide) ?_
    refine v_ldc2 (pc := 15) 5 tw_1381 dX10_universal_15 ?_
    refine v_callS (pc := 18) (As := [.long v2.toInt64, .long 1, .long 5]) (cMd_in l G v2.toInt64 1 5 M1) zc_X10_in tw_1153 (by decide) (Nat.le_of_ble_eq_true rfl) dX10_universal_18 (fun r4 M3 => ?_)
    refine v_if_eq (pc := 21) 34 dX10_universal_21 (by decide) ?_ ?_
    · refine v_sipush (pc := 34) (-1002) dX10_universal_34 (by decide) ?_
      exact v_iret (pc := 37) dX10_universal_37
    · refine v_iload_n (pc := 24) dX10_universal_24 rfl ?_
      refine v_i2l (pc := 25) dX10_universal_25 ?_
      refine v_lconst (pc := 26) 0 dX10_universal_26 (by decide) ?_
      refine v_lconst (pc := 27) 1 dX10_universal_27 (by decide) ?_
      refine v_callS (pc := 28) (As := [.long v3.toInt64, .long 0, .long 1]) (cMd_in l G v3.toInt64 0 1 M3) zc_X10_in tw_1153 (by decide) (Nat.le_of_ble_eq_true rfl) dX10_universal_28 (fun r6 M5 => ?_)
      refine v_if_ne (pc := 31) 38 dX10_universal_31 (by decide) ?_ ?_
      · refine v_iconst (pc := 38) 0 dX10_universal_38 (by decide) ?_
        refine v_istore (pc := 39) dX10_universal_39 (by decide) ?_
        refine v_iconst (pc := 41) (-1) dX10_universal_41 (by decide) ?_
        refine v_istore (pc := 42) dX10_universal_42 (by decide) ?_
        refine v_iconst (pc := 44) 0 dX10_universal_44 (by decide) ?_
        refine v_istore (pc := 45) dX10_universal_45 (by decide) ?_
        exact v_sub (wMd_universal_47 l G FU v1 v2 v3 0 (-1) 0 M5) rfl
      · refine v_sipush (pc := 34) (-1002) dX10_universal_34 (by decide) ?_
        exact v_iret (pc := 37) dX10_universal_37
theorem cMd_universal (l : Launch) (G : zG) (v1 : Int32) (v2 : Int32) (v3 : Int32) (M : zM) : zC eI l G zLY zRY 6 yX10_universal cX10_universal 7 (some .int) [.ref 0, .int v1, .int v2, .int v3] M (fMd_universal v1 v2 v3 M) := zC.of (by decide) (Nat.le_of_ble_eq_true rfl) (v_sub (wMd_universal l G v1 v2 v3 M) rfl)
theorem dX10_small_0 : decode cX10_small 0 = .ok (.aload_n 0, 1) := by decide +kernel
theorem dX10_small_1 : decode cX10_small 1 = .ok (.getfield 99, 3) := by decide +kernel
theorem dX10_small_4 : decode cX10_small 4 = .ok (.iconst 5, 1) := by decide +kernel
theorem dX10_small_5 : decode cX10_small 5 = .ok (.if_icmp .le 7, 3) := by decide +kernel
theorem dX10_small_8 : decode cX10_small 8 = .ok (.sipush (-1003), 3) := by decide +kernel
theorem dX10_small_11 : decode cX10_small 11 = .ok (.ireturn, 1) := by decide +kernel
theorem dX10_small_12 : decode cX10_small 12 = .ok (.iconst 0, 1) := by decide +kernel
theorem dX10_small_13 : decode cX10_small 13 = .ok (.istore_n 1, 1) := by decide +kernel
theorem dX10_small_14 : decode cX10_small 14 = .ok (.iconst 0, 1) := by decide +kernel
theorem dX10_small_15 : decode cX10_small 15 = .ok (.istore_n 2, 1) := by decide +kernel
theorem dX10_small_16 : decode cX10_small 16 = .ok (.iload_n 2, 1) := by decide +kernel
theorem dX10_small_17 : decode cX10_small 17 = .ok (.aload_n 0, 1) := by decide +kernel
theorem dX10_small_18 : decode cX10_small 18 = .ok (.getfield 99, 3) := by decide +kernel
theorem dX10_small_21 : decode cX10_small 21 = .ok (.if_icmp .ge 49, 3) := by decide +kernel
theorem dX10_small_24 : decode cX10_small 24 = .ok (.iconst 0, 1) := by decide +kernel
theorem dX10_small_25 : decode cX10_small 25 = .ok (.istore_n 3, 1) := by decide +kernel
theorem dX10_small_26 : decode cX10_small 26 = .ok (.iload_n 3, 1) := by decide +kernel
theorem dX10_small_27 : decode cX10_small 27 = .ok (.iload_n 2, 1) := by decide +kernel
theorem dX10_small_28 : decode cX10_small 28 = .ok (.if_icmp .ge 36, 3) := by decide +kernel
theorem dX10_small_31 : decode cX10_small 31 = .ok (.iload_n 1, 1) := by decide +kernel
theorem dX10_small_32 : decode cX10_small 32 = .ok (.aload_n 0, 1) := by decide +kernel
theorem dX10_small_33 : decode cX10_small 33 = .ok (.iload_n 3, 1) := by decide +kernel
theorem dX10_small_34 : decode cX10_small 34 = .ok (.iload_n 2, 1) := by decide +kernel
theorem dX10_small_35 : decode cX10_small 35 = .ok (.invokevirtual 119, 3) := by decide +kernel
theorem dX10_small_38 : decode cX10_small 38 = .ok (.ifCond .lt 7, 3) := by decide +kernel
theorem dX10_small_41 : decode cX10_small 41 = .ok (.iconst 1, 1) := by decide +kernel
theorem dX10_small_42 : decode cX10_small 42 = .ok (.goto 4, 3) := by decide +kernel
theorem dX10_small_45 : decode cX10_small 45 = .ok (.iconst 0, 1) := by decide +kernel
theorem dX10_small_46 : decode cX10_small 46 = .ok (.invokestatic 109, 3) := by decide +kernel
theorem dX10_small_49 : decode cX10_small 49 = .ok (.iload_n 2, 1) := by decide +kernel
theorem dX10_small_50 : decode cX10_small 50 = .ok (.invokestatic 240, 3) := by decide +kernel
theorem dX10_small_53 : decode cX10_small 53 = .ok (.iload_n 3, 1) := by decide +kernel
theorem dX10_small_54 : decode cX10_small 54 = .ok (.iadd, 1) := by decide +kernel
theorem dX10_small_55 : decode cX10_small 55 = .ok (.ishl, 1) := by decide +kernel
theorem dX10_small_56 : decode cX10_small 56 = .ok (.ior, 1) := by decide +kernel
theorem dX10_small_57 : decode cX10_small 57 = .ok (.istore_n 1, 1) := by decide +kernel
theorem dX10_small_58 : decode cX10_small 58 = .ok (.iinc 3 1, 3) := by decide +kernel
theorem dX10_small_61 : decode cX10_small 61 = .ok (.goto (-35), 3) := by decide +kernel
theorem dX10_small_64 : decode cX10_small 64 = .ok (.iinc 2 1, 3) := by decide +kernel
theorem dX10_small_67 : decode cX10_small 67 = .ok (.goto (-51), 3) := by decide +kernel
theorem dX10_small_70 : decode cX10_small 70 = .ok (.iload_n 1, 1) := by decide +kernel
theorem dX10_small_71 : decode cX10_small 71 = .ok (.ireturn, 1) := by decide +kernel
theorem wMd_small_46 (l : Launch) (G : zG) (k26 : Int32 → Int32 → Int32 → zM → Option (Int32 × zM)) (hk26 : ∀ (v1 : Int32) (v2 : Int32) (v3 : Int32) (M : zM), zV eI l G zLY zRY 2 yX10_small cX10_small 4 (some .int) 26 [(0, .ref 0), (1, .int v1), (2, .int v2), (3, .int v3)] [] M (k26 v1 v2 v3 M)) (v2 : Int32) (v3 : Int32) (vs0 : Int32) (vs1 : Int32) (M : zM) : zV eI l G zLY zRY 2 yX10_small cX10_small 4 (some .int) 46 [(0, .ref 0), (2, .int v2), (3, .int v3)] [.int vs0, .int vs1] M (fMd_small_46 k26 v2 v3 vs0 vs1 M) := by
  rw [fMd_small_46]
  refine v_callS (pc := 46) (As := [.int vs0]) (cMd_bit l G vs0 M) zc_X10_bit tw_1196 (by decide) (Nat.le_of_ble_eq_true rfl) dX10_small_46 (fun r2 M1 => ?_)
  refine v_iload_n (pc := 49) dX10_small_49 rfl ?_
  refine v_callS (pc := 50) (As := [.int v2]) (cMd_pairs l G v2 M1) zc_X10_pairs tw_1382 (by decide) (Nat.le_of_ble_eq_true rfl) dX10_small_50 (fun r4 M3 => ?_)
  refine v_iload_n (pc := 53) dX10_small_53 rfl ?_
  refine v_iadd (pc := 54) dX10_small_54 ?_
  refine v_ishl (pc := 55) dX10_small_55 ?_
  refine v_ior (pc := 56) dX10_small_56 ?_
  refine v_istore_nL (pc := 57) dX10_small_57 (by decide) (fun u1_57 => ?_)
  refine v_iinc (pc := 58) 1 dX10_small_58 rfl (by decide) (by decide) ?_
  refine v_goto (pc := 61) 26 dX10_small_61 (by decide) ?_
  exact v_sub (hk26 u1_57 v2 (v3 + 1) M3) rfl
theorem wMd_small_26 (l : Launch) (G : zG) (k16 : Int32 → Int32 → zM → Option (Int32 × zM)) (hk16 : ∀ (v1 : Int32) (v2 : Int32) (M : zM), zV eI l G zLY zRY 2 yX10_small cX10_small 4 (some .int) 16 [(0, .ref 0), (1, .int v1), (2, .int v2)] [] M (k16 v1 v2 M)) : ∀ (fuel : Nat) (v1 : Int32) (v2 : Int32) (v3 : Int32) (M : zM), zV eI l G zLY zRY 2 yX10_small cX10_small 4 (some .int) 26 [(0, .ref 0), (1, .int v1), (2, .int v2), (3, .int v3)] [] M (fMd_small_26 k16 fuel v1 v2 v3 M) := by
  intro fuel
  induction fuel with
  | zero => intro v1 v2 v3 M; exact v_none
  | succ fuel ih =>
    intro v1 v2 v3 M
    rw [fMd_small_26]
    refine v_iload_n (pc := 26) dX10_small_26 rfl ?_
    refine v_iload_n (pc := 27) dX10_small_27 rfl ?_
    refine v_icmp_ge (pc := 28) 64 dX10_small_28 (by decide) ?_ ?_
    · refine v_iinc (pc := 64) 1 dX10_small_64 rfl (by decide) (by decide) ?_
      refine v_goto (pc := 67) 16 dX10_small_67 (by decide) ?_
      exact v_sub (hk16 v1 (v2 + 1) M) rfl
    · refine v_iload_n (pc := 31) dX10_small_31 rfl ?_
      refine v_aload_n (pc := 32) dX10_small_32 rfl ?_
      refine v_iload_n (pc := 33) dX10_small_33 rfl ?_
      refine v_iload_n (pc := 34) dX10_small_34 rfl ?_
      refine v_callV (pc := 35) (As := [.int v3, .int v2]) (cMd_lineOf l G v3 v2 M) zc_X10_lineOf zk10 rfl ly_0 tw_1168 (by decide) (Nat.le_of_ble_eq_true rfl) dX10_small_35 (fun r2 M1 => ?_)
      refine v_if_lt (pc := 38) 45 dX10_small_38 (by decide) ?_ ?_
      · refine v_iconst (pc := 45) 0 dX10_small_45 (by decide) ?_
        exact v_sub (wMd_small_46 l G (fMd_small_26 k16 fuel) ih v2 v3 0 v1 M1) rfl
      · refine v_iconst (pc := 41) 1 dX10_small_41 (by decide) ?_
        refine v_goto (pc := 42) 46 dX10_small_42 (by decide) ?_
        exact v_sub (wMd_small_46 l G (fMd_small_26 k16 fuel) ih v2 v3 1 v1 M1) rfl
theorem wMd_small_16 (l : Launch) (G : zG) : ∀ (fuel : Nat) (v1 : Int32) (v2 : Int32) (M : zM), zV eI l G zLY zRY 2 yX10_small cX10_small 4 (some .int) 16 [(0, .ref 0), (1, .int v1), (2, .int v2)] [] M (fMd_small_16 fuel v1 v2 M) := by
  intro fuel
  induction fuel with
  | zero => intro v1 v2 M; exact v_none
  | succ fuel ih =>
    intro v1 v2 M
    rw [fMd_small_16]
    refine v_iload_n (pc := 16) dX10_small_16 rfl ?_
    refine v_aload_n (pc := 17) dX10_small_17 rfl ?_
    refine v_getI (pc := 18) (q := 0) zk10 ly_0 rfl tw_1026 dX10_small_18 ?_
    refine v_icmp_ge (pc := 21) 70 dX10_small_21 (by decide) ?_ ?_
    · refine v_iload_n (pc := 70) dX10_small_70 rfl ?_
      exact v_iret (pc := 71) dX10_small_71
    · refine v_iconst (pc := 24) 0 dX10_small_24 (by decide) ?_
      refine v_istore_n (pc := 25) dX10_small_25 (by decide) ?_
      exact v_sub (wMd_small_26 l G (fMd_small_16 fuel) ih FU v1 v2 0 M) rfl
theorem wMd_small (l : Launch) (G : zG)  (M : zM) : zV eI l G zLY zRY 2 yX10_small cX10_small 4 (some .int) 0 [(0, .ref 0)] [] M (fMd_small  M) := by
  rw [fMd_small]
  refine v_aload_n (pc := 0) dX10_small_0 rfl ?_
  refine v_getI (pc := 1) (q := 0) zk10 ly_0 rfl tw_1026 dX10_small_1 ?_
  refine v_iconst (pc := 4) 5 dX10_small_4 (by decide) ?_
  refine v_icmp_le (pc := 5) 12 dX10_small_5 (by decide) ?_ ?_
  · refine v_iconst (pc := 12) 0 dX10_small_12 (by decide) ?_
    refine v_istore_n (pc := 13) dX10_small_13 (by decide) ?_
    refine v_iconst (pc := 14) 0 dX10_small_14 (by decide) ?_
    refine v_istore_n (pc := 15) dX10_small_15 (by decide) ?_
    exact v_sub (wMd_small_16 l G FU 0 0 M) rfl
  · refine v_sipush (pc := 8) (-1003) dX10_small_8 (by decide) ?_
    exact v_iret (pc := 11) dX10_small_11
theorem cMd_small (l : Launch) (G : zG)  (M : zM) : zC eI l G zLY zRY 2 yX10_small cX10_small 4 (some .int) [.ref 0] M (fMd_small  M) := zC.of (by decide) (Nat.le_of_ble_eq_true rfl) (v_sub (wMd_small l G  M) rfl)
theorem dX10_feed_0 : decode cX10_feed 0 = .ok (.iload_n 1, 1) := by decide +kernel
theorem dX10_feed_1 : decode cX10_feed 1 = .ok (.i2l, 1) := by decide +kernel
theorem dX10_feed_2 : decode cX10_feed 2 = .ok (.lconst 1, 1) := by decide +kernel
theorem dX10_feed_3 : decode cX10_feed 3 = .ok (.ldc2_w 259, 3) := by decide +kernel
theorem dX10_feed_6 : decode cX10_feed 6 = .ok (.invokestatic 102, 3) := by decide +kernel
theorem dX10_feed_9 : decode cX10_feed 9 = .ok (.ifCond .ne 7, 3) := by decide +kernel
theorem dX10_feed_12 : decode cX10_feed 12 = .ok (.sipush (-1002), 3) := by decide +kernel
theorem dX10_feed_15 : decode cX10_feed 15 = .ok (.ireturn, 1) := by decide +kernel
theorem dX10_feed_16 : decode cX10_feed 16 = .ok (.aload_n 0, 1) := by decide +kernel
theorem dX10_feed_17 : decode cX10_feed 17 = .ok (.getfield 174, 3) := by decide +kernel
theorem dX10_feed_20 : decode cX10_feed 20 = .ok (.iload_n 1, 1) := by decide +kernel
theorem dX10_feed_21 : decode cX10_feed 21 = .ok (.iadd, 1) := by decide +kernel
theorem dX10_feed_22 : decode cX10_feed 22 = .ok (.sipush 200, 3) := by decide +kernel
theorem dX10_feed_25 : decode cX10_feed 25 = .ok (.if_icmp .le 7, 3) := by decide +kernel
theorem dX10_feed_28 : decode cX10_feed 28 = .ok (.sipush (-1004), 3) := by decide +kernel
theorem dX10_feed_31 : decode cX10_feed 31 = .ok (.ireturn, 1) := by decide +kernel
theorem dX10_feed_32 : decode cX10_feed 32 = .ok (.iload_n 1, 1) := by decide +kernel
theorem dX10_feed_33 : decode cX10_feed 33 = .ok (.iconst 1, 1) := by decide +kernel
theorem dX10_feed_34 : decode cX10_feed 34 = .ok (.isub, 1) := by decide +kernel
theorem dX10_feed_35 : decode cX10_feed 35 = .ok (.istore 4, 2) := by decide +kernel
theorem dX10_feed_37 : decode cX10_feed 37 = .ok (.iload 4, 2) := by decide +kernel
theorem dX10_feed_39 : decode cX10_feed 39 = .ok (.ifCond .lt 40, 3) := by decide +kernel
theorem dX10_feed_42 : decode cX10_feed 42 = .ok (.aload_n 0, 1) := by decide +kernel
theorem dX10_feed_43 : decode cX10_feed 43 = .ok (.getfield 83, 3) := by decide +kernel
theorem dX10_feed_46 : decode cX10_feed 46 = .ok (.aload_n 0, 1) := by decide +kernel
theorem dX10_feed_47 : decode cX10_feed 47 = .ok (.getfield 174, 3) := by decide +kernel
theorem dX10_feed_50 : decode cX10_feed 50 = .ok (.lload_n 2, 1) := by decide +kernel
theorem dX10_feed_51 : decode cX10_feed 51 = .ok (.bipush 8, 2) := by decide +kernel
theorem dX10_feed_53 : decode cX10_feed 53 = .ok (.iload 4, 2) := by decide +kernel
theorem dX10_feed_55 : decode cX10_feed 55 = .ok (.imul, 1) := by decide +kernel
theorem dX10_feed_56 : decode cX10_feed 56 = .ok (.lshr, 1) := by decide +kernel
theorem dX10_feed_57 : decode cX10_feed 57 = .ok (.ldc2_w 261, 3) := by decide +kernel
theorem dX10_feed_60 : decode cX10_feed 60 = .ok (.land, 1) := by decide +kernel
theorem dX10_feed_61 : decode cX10_feed 61 = .ok (.l2i, 1) := by decide +kernel
theorem dX10_feed_62 : decode cX10_feed 62 = .ok (.iastore, 1) := by decide +kernel
theorem dX10_feed_63 : decode cX10_feed 63 = .ok (.aload_n 0, 1) := by decide +kernel
theorem dX10_feed_64 : decode cX10_feed 64 = .ok (.dup, 1) := by decide +kernel
theorem dX10_feed_65 : decode cX10_feed 65 = .ok (.getfield 174, 3) := by decide +kernel
theorem dX10_feed_68 : decode cX10_feed 68 = .ok (.iconst 1, 1) := by decide +kernel
theorem dX10_feed_69 : decode cX10_feed 69 = .ok (.iadd, 1) := by decide +kernel
theorem dX10_feed_70 : decode cX10_feed 70 = .ok (.putfield 174, 3) := by decide +kernel
theorem dX10_feed_73 : decode cX10_feed 73 = .ok (.iinc 4 (-1), 3) := by decide +kernel
theorem dX10_feed_76 : decode cX10_feed 76 = .ok (.goto (-39), 3) := by decide +kernel
theorem dX10_feed_79 : decode cX10_feed 79 = .ok (.aload_n 0, 1) := by decide +kernel
theorem dX10_feed_80 : decode cX10_feed 80 = .ok (.getfield 174, 3) := by decide +kernel
theorem dX10_feed_83 : decode cX10_feed 83 = .ok (.ireturn, 1) := by decide +kernel
theorem wMd_feed_37 (l : Launch) (G : zG) : ∀ (fuel : Nat) (j2 : Int64) (v4 : Int32) (M : zM), zV eI l G zLY zRY 2 yX10_feed cX10_feed 5 (some .int) 37 [(0, .ref 0), (2, .long j2), (4, .int v4)] [] M (fMd_feed_37 fuel j2 v4 M) := by
  intro fuel
  induction fuel with
  | zero => intro j2 v4 M; exact v_none
  | succ fuel ih =>
    intro j2 v4 M
    rw [fMd_feed_37]
    refine v_iload (pc := 37) dX10_feed_37 rfl ?_
    refine v_if_lt (pc := 39) 79 dX10_feed_39 (by decide) ?_ ?_
    · refine v_aload_n (pc := 79) dX10_feed_79 rfl ?_
      refine v_getI (pc := 80) (q := 29) zk10 ly_0 rfl tw_1055 dX10_feed_80 ?_
      exact v_iret (pc := 83) dX10_feed_83
    · refine v_aload_n (pc := 42) dX10_feed_42 rfl ?_
      refine v_getR (pc := 43) (q := 28) zk10 ly_0 rfl ry_0_28 tw_1054 dX10_feed_43 ?_
      refine v_aload_n (pc := 46) dX10_feed_46 rfl ?_
      refine v_getI (pc := 47) (q := 29) zk10 ly_0 rfl tw_1055 dX10_feed_47 ?_
      refine v_lload_n (pc := 50) dX10_feed_50 rfl ?_
      refine v_bipush (pc := 51) 8 dX10_feed_51 (by decide) ?_
      refine v_iload (pc := 53) dX10_feed_53 rfl ?_
      refine v_imul (pc := 55) dX10_feed_55 ?_
      refine v_lshr (pc := 56) dX10_feed_56 ?_
      refine v_ldc2 (pc := 57) 255 tw_1413 dX10_feed_57 ?_
      refine v_land (pc := 60) dX10_feed_60 ?_
      refine v_l2i (pc := 61) dX10_feed_61 ?_
      refine v_iast (pc := 62) ly_25 dX10_feed_62 (fun M1 => ?_)
      refine v_aload_n (pc := 63) dX10_feed_63 rfl ?_
      refine v_dup (pc := 64) dX10_feed_64 rfl ?_
      refine v_getI (pc := 65) (q := 29) zk10 ly_0 rfl tw_1055 dX10_feed_65 ?_
      refine v_iconst (pc := 68) 1 dX10_feed_68 (by decide) ?_
      refine v_iadd (pc := 69) dX10_feed_69 ?_
      refine v_putI (pc := 70) (q := 29) zk10 ly_0 rfl tw_1055 rfl rfl rfl dX10_feed_70 (fun M2 => ?_)
      refine v_iinc (pc := 73) (-1) dX10_feed_73 rfl (by decide) (by decide) ?_
      refine v_goto (pc := 76) 37 dX10_feed_76 (by decide) ?_
      exact v_sub (ih j2 (v4 + (-1)) M2) rfl
theorem wMd_feed (l : Launch) (G : zG) (v1 : Int32) (j2 : Int64) (M : zM) : zV eI l G zLY zRY 2 yX10_feed cX10_feed 5 (some .int) 0 [(0, .ref 0), (1, .int v1), (2, .long j2)] [] M (fMd_feed v1 j2 M) := by
  rw [fMd_feed]
  refine v_iload_n (pc := 0) dX10_feed_0 rfl ?_
  refine v_i2l (pc := 1) dX10_feed_1 ?_
  refine v_lconst (pc := 2) 1 dX10_feed_2 (by decide) ?_
  refine v_ldc2 (pc := 3) 8 tw_1412 dX10_feed_3 ?_
  refine v_callS (pc := 6) (As := [.long v1.toInt64, .long 1, .long 8]) (cMd_in l G v1.toInt64 1 8 M) zc_X10_in tw_1153 (by decide) (Nat.le_of_ble_eq_true rfl) dX10_feed_6 (fun r2 M1 => ?_)
  refine v_if_ne (pc := 9) 16 dX10_feed_9 (by decide) ?_ ?_
  · refine v_aload_n (pc := 16) dX10_feed_16 rfl ?_
    refine v_getI (pc := 17) (q := 29) zk10 ly_0 rfl tw_1055 dX10_feed_17 ?_
    refine v_iload_n (pc := 20) dX10_feed_20 rfl ?_
    refine v_iadd (pc := 21) dX10_feed_21 ?_
    refine v_sipush (pc := 22) 200 dX10_feed_22 (by decide) ?_
    refine v_icmp_le (pc := 25) 32 dX10_feed_25 (by decide) ?_ ?_
    · refine v_iload_n (pc := 32) dX10_feed_32 rfl ?_
      refine v_iconst (pc := 33) 1 dX10_feed_33 (by decide) ?_
      refine v_isub (pc := 34) dX10_feed_34 ?_
      refine v_istoreL (pc := 35) dX10_feed_35 (by decide) (fun u4_35 => ?_)
      exact v_sub (wMd_feed_37 l G FU j2 u4_35 M1) rfl
    · refine v_sipush (pc := 28) (-1004) dX10_feed_28 (by decide) ?_
      exact v_iret (pc := 31) dX10_feed_31
  · refine v_sipush (pc := 12) (-1002) dX10_feed_12 (by decide) ?_
    exact v_iret (pc := 15) dX10_feed_15
theorem cMd_feed (l : Launch) (G : zG) (v1 : Int32) (j2 : Int64) (M : zM) : zC eI l G zLY zRY 2 yX10_feed cX10_feed 5 (some .int) [.ref 0, .int v1, .long j2] M (fMd_feed v1 j2 M) := zC.of (by decide) (Nat.le_of_ble_eq_true rfl) (v_sub (wMd_feed l G v1 j2 M) rfl)
