theorem dX9_net_0 : decode cX9_net 0 = .ok (.iload_n 1, 1) := by decide +kernel
theorem dX9_net_1 : decode cX9_net 1 = .ok (.iconst 1, 1) := by decide +kernel
theorem dX9_net_2 : decode cX9_net 2 = .ok (.if_icmp .lt 9, 3) := by decide +kernel
theorem dX9_net_5 : decode cX9_net 5 = .ok (.iload_n 1, 1) := by decide +kernel
theorem dX9_net_6 : decode cX9_net 6 = .ok (.bipush 12, 2) := by decide +kernel
theorem dX9_net_8 : decode cX9_net 8 = .ok (.if_icmp .le 7, 3) := by decide +kernel
theorem dX9_net_11 : decode cX9_net 11 = .ok (.sipush (-1002), 3) := by decide +kernel
theorem dX9_net_14 : decode cX9_net 14 = .ok (.ireturn, 1) := by decide +kernel
theorem dX9_net_15 : decode cX9_net 15 = .ok (.aload_n 0, 1) := by decide +kernel
theorem dX9_net_16 : decode cX9_net 16 = .ok (.getfield 10, 3) := by decide +kernel
theorem dX9_net_19 : decode cX9_net 19 = .ok (.iload_n 1, 1) := by decide +kernel
theorem dX9_net_20 : decode cX9_net 20 = .ok (.invokevirtual 73, 3) := by decide +kernel
theorem dX9_net_23 : decode cX9_net 23 = .ok (.iconst 1, 1) := by decide +kernel
theorem dX9_net_24 : decode cX9_net 24 = .ok (.ireturn, 1) := by decide +kernel
theorem wNN_net (l : Launch) (G : zG) (v1 : Int32) (M : zM) : zV eI l G zLX zRX 3 yX9_net cX9_net 2 (some .int) 0 [(0, .ref 0), (1, .int v1)] [] M (fNN_net v1 M) := by
  rw [fNN_net]
  refine v_iload_n (pc := 0) dX9_net_0 rfl ?_
  refine v_iconst (pc := 1) 1 dX9_net_1 (by decide) ?_
  refine v_icmp_lt (pc := 2) 11 dX9_net_2 (by decide) ?_ ?_
  · refine v_sipush (pc := 11) (-1002) dX9_net_11 (by decide) ?_
    exact v_iret (pc := 14) dX9_net_14
  · refine v_iload_n (pc := 5) dX9_net_5 rfl ?_
    refine v_bipush (pc := 6) 12 dX9_net_6 (by decide) ?_
    refine v_icmp_le (pc := 8) 15 dX9_net_8 (by decide) ?_ ?_
    · refine v_aload_n (pc := 15) dX9_net_15 rfl ?_
      refine v_getR (pc := 16) (q := 0) zk9 lx_0 rfl rx_0_0 tw_431 dX9_net_16 ?_
      refine v_iload_n (pc := 19) dX9_net_19 rfl ?_
      refine v_callV (pc := 20) (As := [.int v1]) (cNet_begin l G v1 M) zc_X3_begin zk3 rfl lx_1 tw_460 (by decide) (Nat.le_of_ble_eq_true rfl) dX9_net_20 (fun _ M1 => ?_)
      skip
      refine v_iconst (pc := 23) 1 dX9_net_23 (by decide) ?_
      exact v_iret (pc := 24) dX9_net_24
    · refine v_sipush (pc := 11) (-1002) dX9_net_11 (by decide) ?_
      exact v_iret (pc := 14) dX9_net_14
theorem cNN_net (l : Launch) (G : zG) (v1 : Int32) (M : zM) : zC eI l G zLX zRX 3 yX9_net cX9_net 2 (some .int) [.ref 0, .int v1] M (fNN_net v1 M) := zC.of (by decide) (Nat.le_of_ble_eq_true rfl) (v_sub (wNN_net l G v1 M) rfl)
theorem dX9_post_0 : decode cX9_post 0 = .ok (.aload_n 0, 1) := by decide +kernel
theorem dX9_post_1 : decode cX9_post 1 = .ok (.getfield 10, 3) := by decide +kernel
theorem dX9_post_4 : decode cX9_post 4 = .ok (.getfield 76, 3) := by decide +kernel
theorem dX9_post_7 : decode cX9_post 7 = .ok (.bipush 12, 2) := by decide +kernel
theorem dX9_post_9 : decode cX9_post 9 = .ok (.if_icmp .lt 7, 3) := by decide +kernel
theorem dX9_post_12 : decode cX9_post 12 = .ok (.sipush (-1004), 3) := by decide +kernel
theorem dX9_post_15 : decode cX9_post 15 = .ok (.ireturn, 1) := by decide +kernel
theorem dX9_post_16 : decode cX9_post 16 = .ok (.aload_n 0, 1) := by decide +kernel
theorem dX9_post_17 : decode cX9_post 17 = .ok (.getfield 10, 3) := by decide +kernel
theorem dX9_post_20 : decode cX9_post 20 = .ok (.invokevirtual 80, 3) := by decide +kernel
theorem dX9_post_23 : decode cX9_post 23 = .ok (.ireturn, 1) := by decide +kernel
theorem wNN_post (l : Launch) (G : zG)  (M : zM) : zV eI l G zLX zRX 2 yX9_post cX9_post 1 (some .int) 0 [(0, .ref 0)] [] M (fNN_post  M) := by
  rw [fNN_post]
  refine v_aload_n (pc := 0) dX9_post_0 rfl ?_
  refine v_getR (pc := 1) (q := 0) zk9 lx_0 rfl rx_0_0 tw_431 dX9_post_1 ?_
  refine v_getI (pc := 4) (q := 0) zk3 lx_1 rfl tw_118 dX9_post_4 ?_
  refine v_bipush (pc := 7) 12 dX9_post_7 (by decide) ?_
  refine v_icmp_lt (pc := 9) 16 dX9_post_9 (by decide) ?_ ?_
  · refine v_aload_n (pc := 16) dX9_post_16 rfl ?_
    refine v_getR (pc := 17) (q := 0) zk9 lx_0 rfl rx_0_0 tw_431 dX9_post_17 ?_
    refine v_callV (pc := 20) (As := []) (cNet_addPost l G  M) zc_X3_addPost zk3 rfl lx_1 tw_471 (by decide) (Nat.le_of_ble_eq_true rfl) dX9_post_20 (fun r2 M1 => ?_)
    exact v_iret (pc := 23) dX9_post_23
  · refine v_sipush (pc := 12) (-1004) dX9_post_12 (by decide) ?_
    exact v_iret (pc := 15) dX9_post_15
theorem cNN_post (l : Launch) (G : zG)  (M : zM) : zC eI l G zLX zRX 2 yX9_post cX9_post 1 (some .int) [.ref 0] M (fNN_post  M) := zC.of (by decide) (Nat.le_of_ble_eq_true rfl) (v_sub (wNN_post l G  M) rfl)
theorem dX9_line_0 : decode cX9_line 0 = .ok (.aload_n 0, 1) := by decide +kernel
theorem dX9_line_1 : decode cX9_line 1 = .ok (.getfield 10, 3) := by decide +kernel
theorem dX9_line_4 : decode cX9_line 4 = .ok (.iload_n 1, 1) := by decide +kernel
theorem dX9_line_5 : decode cX9_line 5 = .ok (.iload_n 2, 1) := by decide +kernel
theorem dX9_line_6 : decode cX9_line 6 = .ok (.invokevirtual 84, 3) := by decide +kernel
theorem dX9_line_9 : decode cX9_line 9 = .ok (.ifCond .ne 7, 3) := by decide +kernel
theorem dX9_line_12 : decode cX9_line 12 = .ok (.sipush (-1001), 3) := by decide +kernel
theorem dX9_line_15 : decode cX9_line 15 = .ok (.ireturn, 1) := by decide +kernel
theorem dX9_line_16 : decode cX9_line 16 = .ok (.iload_n 1, 1) := by decide +kernel
theorem dX9_line_17 : decode cX9_line 17 = .ok (.iload_n 2, 1) := by decide +kernel
theorem dX9_line_18 : decode cX9_line 18 = .ok (.if_icmp .ne 7, 3) := by decide +kernel
theorem dX9_line_21 : decode cX9_line 21 = .ok (.sipush (-1002), 3) := by decide +kernel
theorem dX9_line_24 : decode cX9_line 24 = .ok (.ireturn, 1) := by decide +kernel
theorem dX9_line_25 : decode cX9_line 25 = .ok (.aload_n 0, 1) := by decide +kernel
theorem dX9_line_26 : decode cX9_line 26 = .ok (.getfield 10, 3) := by decide +kernel
theorem dX9_line_29 : decode cX9_line 29 = .ok (.iload_n 1, 1) := by decide +kernel
theorem dX9_line_30 : decode cX9_line 30 = .ok (.iload_n 2, 1) := by decide +kernel
theorem dX9_line_31 : decode cX9_line 31 = .ok (.invokevirtual 88, 3) := by decide +kernel
theorem dX9_line_34 : decode cX9_line 34 = .ok (.ifCond .eq 7, 3) := by decide +kernel
theorem dX9_line_37 : decode cX9_line 37 = .ok (.sipush (-1003), 3) := by decide +kernel
theorem dX9_line_40 : decode cX9_line 40 = .ok (.ireturn, 1) := by decide +kernel
theorem dX9_line_41 : decode cX9_line 41 = .ok (.aload_n 0, 1) := by decide +kernel
theorem dX9_line_42 : decode cX9_line 42 = .ok (.getfield 10, 3) := by decide +kernel
theorem dX9_line_45 : decode cX9_line 45 = .ok (.getfield 91, 3) := by decide +kernel
theorem dX9_line_48 : decode cX9_line 48 = .ok (.bipush 30, 2) := by decide +kernel
theorem dX9_line_50 : decode cX9_line 50 = .ok (.if_icmp .lt 7, 3) := by decide +kernel
theorem dX9_line_53 : decode cX9_line 53 = .ok (.sipush (-1004), 3) := by decide +kernel
theorem dX9_line_56 : decode cX9_line 56 = .ok (.ireturn, 1) := by decide +kernel
theorem dX9_line_57 : decode cX9_line 57 = .ok (.aload_n 0, 1) := by decide +kernel
theorem dX9_line_58 : decode cX9_line 58 = .ok (.getfield 10, 3) := by decide +kernel
theorem dX9_line_61 : decode cX9_line 61 = .ok (.iload_n 1, 1) := by decide +kernel
theorem dX9_line_62 : decode cX9_line 62 = .ok (.iload_n 2, 1) := by decide +kernel
theorem dX9_line_63 : decode cX9_line 63 = .ok (.invokevirtual 94, 3) := by decide +kernel
theorem dX9_line_66 : decode cX9_line 66 = .ok (.ireturn, 1) := by decide +kernel
theorem wNN_line (l : Launch) (G : zG) (v1 : Int32) (v2 : Int32) (M : zM) : zV eI l G zLX zRX 3 yX9_line cX9_line 3 (some .int) 0 [(0, .ref 0), (1, .int v1), (2, .int v2)] [] M (fNN_line v1 v2 M) := by
  rw [fNN_line]
  refine v_aload_n (pc := 0) dX9_line_0 rfl ?_
  refine v_getR (pc := 1) (q := 0) zk9 lx_0 rfl rx_0_0 tw_431 dX9_line_1 ?_
  refine v_iload_n (pc := 4) dX9_line_4 rfl ?_
  refine v_iload_n (pc := 5) dX9_line_5 rfl ?_
  refine v_callV (pc := 6) (As := [.int v1, .int v2]) (cNet_hasPosts l G v1 v2 M) zc_X3_hasPosts zk3 rfl lx_1 tw_479 (by decide) (Nat.le_of_ble_eq_true rfl) dX9_line_6 (fun r2 M1 => ?_)
  refine v_if_ne (pc := 9) 16 dX9_line_9 (by decide) ?_ ?_
  · refine v_iload_n (pc := 16) dX9_line_16 rfl ?_
    refine v_iload_n (pc := 17) dX9_line_17 rfl ?_
    refine v_icmp_ne (pc := 18) 25 dX9_line_18 (by decide) ?_ ?_
    · refine v_aload_n (pc := 25) dX9_line_25 rfl ?_
      refine v_getR (pc := 26) (q := 0) zk9 lx_0 rfl rx_0_0 tw_431 dX9_line_26 ?_
      refine v_iload_n (pc := 29) dX9_line_29 rfl ?_
      refine v_iload_n (pc := 30) dX9_line_30 rfl ?_
      refine v_callV (pc := 31) (As := [.int v1, .int v2]) (cNet_joins l G v1 v2 M1) zc_X3_joins zk3 rfl lx_1 tw_487 (by decide) (Nat.le_of_ble_eq_true rfl) dX9_line_31 (fun r4 M3 => ?_)
      refine v_if_eq (pc := 34) 41 dX9_line_34 (by decide) ?_ ?_
      · refine v_aload_n (pc := 41) dX9_line_41 rfl ?_
        refine v_getR (pc := 42) (q := 0) zk9 lx_0 rfl rx_0_0 tw_431 dX9_line_42 ?_
        refine v_getI (pc := 45) (q := 1) zk3 lx_1 rfl tw_122 dX9_line_45 ?_
        refine v_bipush (pc := 48) 30 dX9_line_48 (by decide) ?_
        refine v_icmp_lt (pc := 50) 57 dX9_line_50 (by decide) ?_ ?_
        · refine v_aload_n (pc := 57) dX9_line_57 rfl ?_
          refine v_getR (pc := 58) (q := 0) zk9 lx_0 rfl rx_0_0 tw_431 dX9_line_58 ?_
          refine v_iload_n (pc := 61) dX9_line_61 rfl ?_
          refine v_iload_n (pc := 62) dX9_line_62 rfl ?_
          refine v_callV (pc := 63) (As := [.int v1, .int v2]) (cNet_addLine l G v1 v2 M3) zc_X3_addLine zk3 rfl lx_1 tw_491 (by decide) (Nat.le_of_ble_eq_true rfl) dX9_line_63 (fun r6 M5 => ?_)
          exact v_iret (pc := 66) dX9_line_66
        · refine v_sipush (pc := 53) (-1004) dX9_line_53 (by decide) ?_
          exact v_iret (pc := 56) dX9_line_56
      · refine v_sipush (pc := 37) (-1003) dX9_line_37 (by decide) ?_
        exact v_iret (pc := 40) dX9_line_40
    · refine v_sipush (pc := 21) (-1002) dX9_line_21 (by decide) ?_
      exact v_iret (pc := 24) dX9_line_24
  · refine v_sipush (pc := 12) (-1001) dX9_line_12 (by decide) ?_
    exact v_iret (pc := 15) dX9_line_15
theorem cNN_line (l : Launch) (G : zG) (v1 : Int32) (v2 : Int32) (M : zM) : zC eI l G zLX zRX 3 yX9_line cX9_line 3 (some .int) [.ref 0, .int v1, .int v2] M (fNN_line v1 v2 M) := zC.of (by decide) (Nat.le_of_ble_eq_true rfl) (v_sub (wNN_line l G v1 v2 M) rfl)
theorem dX9_strike_0 : decode cX9_strike 0 = .ok (.aload_n 0, 1) := by decide +kernel
theorem dX9_strike_1 : decode cX9_strike 1 = .ok (.getfield 10, 3) := by decide +kernel
theorem dX9_strike_4 : decode cX9_strike 4 = .ok (.iload_n 1, 1) := by decide +kernel
theorem dX9_strike_5 : decode cX9_strike 5 = .ok (.invokevirtual 98, 3) := by decide +kernel
theorem dX9_strike_8 : decode cX9_strike 8 = .ok (.ifCond .ne 7, 3) := by decide +kernel
theorem dX9_strike_11 : decode cX9_strike 11 = .ok (.sipush (-1001), 3) := by decide +kernel
theorem dX9_strike_14 : decode cX9_strike 14 = .ok (.ireturn, 1) := by decide +kernel
theorem dX9_strike_15 : decode cX9_strike 15 = .ok (.aload_n 0, 1) := by decide +kernel
theorem dX9_strike_16 : decode cX9_strike 16 = .ok (.getfield 10, 3) := by decide +kernel
theorem dX9_strike_19 : decode cX9_strike 19 = .ok (.iload_n 1, 1) := by decide +kernel
theorem dX9_strike_20 : decode cX9_strike 20 = .ok (.invokevirtual 102, 3) := by decide +kernel
theorem dX9_strike_23 : decode cX9_strike 23 = .ok (.aload_n 0, 1) := by decide +kernel
theorem dX9_strike_24 : decode cX9_strike 24 = .ok (.getfield 10, 3) := by decide +kernel
theorem dX9_strike_27 : decode cX9_strike 27 = .ok (.getfield 91, 3) := by decide +kernel
theorem dX9_strike_30 : decode cX9_strike 30 = .ok (.ireturn, 1) := by decide +kernel
theorem wNN_strike (l : Launch) (G : zG) (v1 : Int32) (M : zM) : zV eI l G zLX zRX 2 yX9_strike cX9_strike 2 (some .int) 0 [(0, .ref 0), (1, .int v1)] [] M (fNN_strike v1 M) := by
  rw [fNN_strike]
  refine v_aload_n (pc := 0) dX9_strike_0 rfl ?_
  refine v_getR (pc := 1) (q := 0) zk9 lx_0 rfl rx_0_0 tw_431 dX9_strike_1 ?_
  refine v_iload_n (pc := 4) dX9_strike_4 rfl ?_
  refine v_callV (pc := 5) (As := [.int v1]) (cNet_hasLine l G v1 M) zc_X3_hasLine zk3 rfl lx_1 tw_499 (by decide) (Nat.le_of_ble_eq_true rfl) dX9_strike_5 (fun r2 M1 => ?_)
  refine v_if_ne (pc := 8) 15 dX9_strike_8 (by decide) ?_ ?_
  · refine v_aload_n (pc := 15) dX9_strike_15 rfl ?_
    refine v_getR (pc := 16) (q := 0) zk9 lx_0 rfl rx_0_0 tw_431 dX9_strike_16 ?_
    refine v_iload_n (pc := 19) dX9_strike_19 rfl ?_
    refine v_callV (pc := 20) (As := [.int v1]) (cNet_removeLine l G v1 M1) zc_X3_removeLine zk3 rfl lx_1 tw_503 (by decide) (Nat.le_of_ble_eq_true rfl) dX9_strike_20 (fun _ M3 => ?_)
    skip
    refine v_aload_n (pc := 23) dX9_strike_23 rfl ?_
    refine v_getR (pc := 24) (q := 0) zk9 lx_0 rfl rx_0_0 tw_431 dX9_strike_24 ?_
    refine v_getI (pc := 27) (q := 1) zk3 lx_1 rfl tw_122 dX9_strike_27 ?_
    exact v_iret (pc := 30) dX9_strike_30
  · refine v_sipush (pc := 11) (-1001) dX9_strike_11 (by decide) ?_
    exact v_iret (pc := 14) dX9_strike_14
theorem cNN_strike (l : Launch) (G : zG) (v1 : Int32) (M : zM) : zC eI l G zLX zRX 2 yX9_strike cX9_strike 2 (some .int) [.ref 0, .int v1] M (fNN_strike v1 M) := zC.of (by decide) (Nat.le_of_ble_eq_true rfl) (v_sub (wNN_strike l G v1 M) rfl)
theorem dX9_kindsLearned_0 : decode cX9_kindsLearned 0 = .ok (.iconst 0, 1) := by decide +kernel
theorem dX9_kindsLearned_1 : decode cX9_kindsLearned 1 = .ok (.istore_n 1, 1) := by decide +kernel
theorem dX9_kindsLearned_2 : decode cX9_kindsLearned 2 = .ok (.iconst 0, 1) := by decide +kernel
theorem dX9_kindsLearned_3 : decode cX9_kindsLearned 3 = .ok (.istore_n 2, 1) := by decide +kernel
theorem dX9_kindsLearned_4 : decode cX9_kindsLearned 4 = .ok (.iload_n 2, 1) := by decide +kernel
theorem dX9_kindsLearned_5 : decode cX9_kindsLearned 5 = .ok (.iconst 3, 1) := by decide +kernel
theorem dX9_kindsLearned_6 : decode cX9_kindsLearned 6 = .ok (.if_icmp .ge 29, 3) := by decide +kernel
theorem dX9_kindsLearned_9 : decode cX9_kindsLearned 9 = .ok (.iload_n 1, 1) := by decide +kernel
theorem dX9_kindsLearned_10 : decode cX9_kindsLearned 10 = .ok (.aload_n 0, 1) := by decide +kernel
theorem dX9_kindsLearned_11 : decode cX9_kindsLearned 11 = .ok (.getfield 36, 3) := by decide +kernel
theorem dX9_kindsLearned_14 : decode cX9_kindsLearned 14 = .ok (.iload_n 2, 1) := by decide +kernel
theorem dX9_kindsLearned_15 : decode cX9_kindsLearned 15 = .ok (.aaload, 1) := by decide +kernel
theorem dX9_kindsLearned_16 : decode cX9_kindsLearned 16 = .ok (.getfield 219, 3) := by decide +kernel
theorem dX9_kindsLearned_19 : decode cX9_kindsLearned 19 = .ok (.ifCond .eq 7, 3) := by decide +kernel
theorem dX9_kindsLearned_22 : decode cX9_kindsLearned 22 = .ok (.iconst 1, 1) := by decide +kernel
theorem dX9_kindsLearned_23 : decode cX9_kindsLearned 23 = .ok (.goto 4, 3) := by decide +kernel
theorem dX9_kindsLearned_26 : decode cX9_kindsLearned 26 = .ok (.iconst 0, 1) := by decide +kernel
theorem dX9_kindsLearned_27 : decode cX9_kindsLearned 27 = .ok (.iadd, 1) := by decide +kernel
theorem dX9_kindsLearned_28 : decode cX9_kindsLearned 28 = .ok (.istore_n 1, 1) := by decide +kernel
theorem dX9_kindsLearned_29 : decode cX9_kindsLearned 29 = .ok (.iinc 2 1, 3) := by decide +kernel
theorem dX9_kindsLearned_32 : decode cX9_kindsLearned 32 = .ok (.goto (-28), 3) := by decide +kernel
theorem dX9_kindsLearned_35 : decode cX9_kindsLearned 35 = .ok (.iload_n 1, 1) := by decide +kernel
theorem dX9_kindsLearned_36 : decode cX9_kindsLearned 36 = .ok (.ireturn, 1) := by decide +kernel
theorem wNN_kindsLearned_4 (l : Launch) (G : zG) : ∀ (fuel : Nat) (v1 : Int32) (v2 : Int32) (M : zM), zV eI l G zLX zRX 1 yX9_kindsLearned cX9_kindsLearned 3 (some .int) 4 [(0, .ref 0), (1, .int v1), (2, .int v2)] [] M (fNN_kindsLearned_4 fuel v1 v2 M) := by
  intro fuel
  induction fuel with
  | zero => intro v1 v2 M; exact v_none
  | succ fuel ih =>
    intro v1 v2 M
    rw [fNN_kindsLearned_4]
    refine v_iload_n (pc := 4) dX9_kindsLearned_4 rfl ?_
    refine v_iconst (pc := 5) 3 dX9_kindsLearned_5 (by decide) ?_
    refine v_icmp_ge (pc := 6) 35 dX9_kindsLearned_6 (by decide) ?_ ?_
    · refine v_iload_n (pc := 35) dX9_kindsLearned_35 rfl ?_
      exact v_iret (pc := 36) dX9_kindsLearned_36
    · refine v_iload_n (pc := 9) dX9_kindsLearned_9 rfl ?_
      refine v_aload_n (pc := 10) dX9_kindsLearned_10 rfl ?_
      refine v_getR (pc := 11) (q := 3) zk9 lx_0 rfl rx_0_3 tw_434 dX9_kindsLearned_11 ?_
      refine v_iload_n (pc := 14) dX9_kindsLearned_14 rfl ?_
      refine v_paald (pc := 15) lx_32 dX9_kindsLearned_15 (fun b1 hib1 hbb1 => ?_)
      have hb1 := zPg_rows hib1 hbb1
      refine v_getI (pc := 16) (q := 0) zk4 hb1.1 rfl tw_290 dX9_kindsLearned_16 ?_
      refine v_if_eq (pc := 19) 26 dX9_kindsLearned_19 (by decide) ?_ ?_
      · refine v_iconst (pc := 26) 0 dX9_kindsLearned_26 (by decide) ?_
        refine v_iadd (pc := 27) dX9_kindsLearned_27 ?_
        refine v_istore_nL (pc := 28) dX9_kindsLearned_28 (by decide) (fun u1_28 => ?_)
        refine v_iinc (pc := 29) 1 dX9_kindsLearned_29 rfl (by decide) (by decide) ?_
        refine v_goto (pc := 32) 4 dX9_kindsLearned_32 (by decide) ?_
        exact v_sub (ih u1_28 (v2 + 1) M) rfl
      · refine v_iconst (pc := 22) 1 dX9_kindsLearned_22 (by decide) ?_
        refine v_goto (pc := 23) 27 dX9_kindsLearned_23 (by decide) ?_
        refine v_iadd (pc := 27) dX9_kindsLearned_27 ?_
        refine v_istore_nL (pc := 28) dX9_kindsLearned_28 (by decide) (fun u1_28 => ?_)
        refine v_iinc (pc := 29) 1 dX9_kindsLearned_29 rfl (by decide) (by decide) ?_
        refine v_goto (pc := 32) 4 dX9_kindsLearned_32 (by decide) ?_
        exact v_sub (ih u1_28 (v2 + 1) M) rfl
theorem wNN_kindsLearned (l : Launch) (G : zG)  (M : zM) : zV eI l G zLX zRX 1 yX9_kindsLearned cX9_kindsLearned 3 (some .int) 0 [(0, .ref 0)] [] M (fNN_kindsLearned  M) := by
  rw [fNN_kindsLearned]
  refine v_iconst (pc := 0) 0 dX9_kindsLearned_0 (by decide) ?_
  refine v_istore_n (pc := 1) dX9_kindsLearned_1 (by decide) ?_
  refine v_iconst (pc := 2) 0 dX9_kindsLearned_2 (by decide) ?_
  refine v_istore_n (pc := 3) dX9_kindsLearned_3 (by decide) ?_
  exact v_sub (wNN_kindsLearned_4 l G FU 0 0 M) rfl
theorem cNN_kindsLearned (l : Launch) (G : zG)  (M : zM) : zC eI l G zLX zRX 1 yX9_kindsLearned cX9_kindsLearned 3 (some .int) [.ref 0] M (fNN_kindsLearned  M) := zC.of (by decide) (Nat.le_of_ble_eq_true rfl) (v_sub (wNN_kindsLearned l G  M) rfl)
theorem dX9_count_0 : decode cX9_count 0 = .ok (.iload_n 1, 1) := by decide +kernel
theorem dX9_count_1 : decode cX9_count 1 = .ok (.tableswitch 122 0 7 #[47, 55, 63, 82, 93, 98, 106, 114], 47) := by decide +kernel
theorem dX9_count_48 : decode cX9_count 48 = .ok (.aload_n 0, 1) := by decide +kernel
theorem dX9_count_49 : decode cX9_count 49 = .ok (.getfield 10, 3) := by decide +kernel
theorem dX9_count_52 : decode cX9_count 52 = .ok (.getfield 76, 3) := by decide +kernel
theorem dX9_count_55 : decode cX9_count 55 = .ok (.ireturn, 1) := by decide +kernel
theorem dX9_count_56 : decode cX9_count 56 = .ok (.aload_n 0, 1) := by decide +kernel
theorem dX9_count_57 : decode cX9_count 57 = .ok (.getfield 10, 3) := by decide +kernel
theorem dX9_count_60 : decode cX9_count 60 = .ok (.getfield 91, 3) := by decide +kernel
theorem dX9_count_63 : decode cX9_count 63 = .ok (.ireturn, 1) := by decide +kernel
theorem dX9_count_64 : decode cX9_count 64 = .ok (.aload_n 0, 1) := by decide +kernel
theorem dX9_count_65 : decode cX9_count 65 = .ok (.getfield 10, 3) := by decide +kernel
theorem dX9_count_68 : decode cX9_count 68 = .ok (.getfield 76, 3) := by decide +kernel
theorem dX9_count_71 : decode cX9_count 71 = .ok (.aload_n 0, 1) := by decide +kernel
theorem dX9_count_72 : decode cX9_count 72 = .ok (.getfield 21, 3) := by decide +kernel
theorem dX9_count_75 : decode cX9_count 75 = .ok (.invokevirtual 105, 3) := by decide +kernel
theorem dX9_count_78 : decode cX9_count 78 = .ok (.getfield 109, 3) := by decide +kernel
theorem dX9_count_81 : decode cX9_count 81 = .ok (.isub, 1) := by decide +kernel
theorem dX9_count_82 : decode cX9_count 82 = .ok (.ireturn, 1) := by decide +kernel
theorem dX9_count_83 : decode cX9_count 83 = .ok (.aload_n 0, 1) := by decide +kernel
theorem dX9_count_84 : decode cX9_count 84 = .ok (.getfield 21, 3) := by decide +kernel
theorem dX9_count_87 : decode cX9_count 87 = .ok (.invokevirtual 105, 3) := by decide +kernel
theorem dX9_count_90 : decode cX9_count 90 = .ok (.getfield 109, 3) := by decide +kernel
theorem dX9_count_93 : decode cX9_count 93 = .ok (.ireturn, 1) := by decide +kernel
theorem dX9_count_94 : decode cX9_count 94 = .ok (.aload_n 0, 1) := by decide +kernel
theorem dX9_count_95 : decode cX9_count 95 = .ok (.invokevirtual 112, 3) := by decide +kernel
theorem dX9_count_98 : decode cX9_count 98 = .ok (.ireturn, 1) := by decide +kernel
theorem dX9_count_99 : decode cX9_count 99 = .ok (.aload_n 0, 1) := by decide +kernel
theorem dX9_count_100 : decode cX9_count 100 = .ok (.getfield 69, 3) := by decide +kernel
theorem dX9_count_103 : decode cX9_count 103 = .ok (.getfield 115, 3) := by decide +kernel
theorem dX9_count_106 : decode cX9_count 106 = .ok (.ireturn, 1) := by decide +kernel
theorem dX9_count_107 : decode cX9_count 107 = .ok (.aload_n 0, 1) := by decide +kernel
theorem dX9_count_108 : decode cX9_count 108 = .ok (.getfield 69, 3) := by decide +kernel
theorem dX9_count_111 : decode cX9_count 111 = .ok (.getfield 118, 3) := by decide +kernel
theorem dX9_count_114 : decode cX9_count 114 = .ok (.ireturn, 1) := by decide +kernel
theorem dX9_count_115 : decode cX9_count 115 = .ok (.aload_n 0, 1) := by decide +kernel
theorem dX9_count_116 : decode cX9_count 116 = .ok (.getfield 10, 3) := by decide +kernel
theorem dX9_count_119 : decode cX9_count 119 = .ok (.invokevirtual 121, 3) := by decide +kernel
theorem dX9_count_122 : decode cX9_count 122 = .ok (.ireturn, 1) := by decide +kernel
theorem dX9_count_123 : decode cX9_count 123 = .ok (.sipush (-1002), 3) := by decide +kernel
theorem dX9_count_126 : decode cX9_count 126 = .ok (.ireturn, 1) := by decide +kernel
theorem wNN_count (l : Launch) (G : zG) (v1 : Int32) (M : zM) : zV eI l G zLX zRX 4 yX9_count cX9_count 2 (some .int) 0 [(0, .ref 0), (1, .int v1)] [] M (fNN_count v1 M) := by
  rw [fNN_count]
  refine v_iload_n (pc := 0) dX9_count_0 rfl ?_
  refine v_tsw (pc := 1) (dt := 123) [48, 56, 64, 83, 94, 99, 107, 115] [_, _, _, _, _, _, _, _] dX9_count_1 rfl (by decide) (by decide) (by decide) (by decide) ⟨?_, ?_, ?_, ?_, ?_, ?_, ?_, ?_, trivial⟩ ?_
  · refine v_aload_n (pc := 48) dX9_count_48 rfl ?_
    refine v_getR (pc := 49) (q := 0) zk9 lx_0 rfl rx_0_0 tw_431 dX9_count_49 ?_
    refine v_getI (pc := 52) (q := 0) zk3 lx_1 rfl tw_118 dX9_count_52 ?_
    exact v_iret (pc := 55) dX9_count_55
  · refine v_aload_n (pc := 56) dX9_count_56 rfl ?_
    refine v_getR (pc := 57) (q := 0) zk9 lx_0 rfl rx_0_0 tw_431 dX9_count_57 ?_
    refine v_getI (pc := 60) (q := 1) zk3 lx_1 rfl tw_122 dX9_count_60 ?_
    exact v_iret (pc := 63) dX9_count_63
  · refine v_aload_n (pc := 64) dX9_count_64 rfl ?_
    refine v_getR (pc := 65) (q := 0) zk9 lx_0 rfl rx_0_0 tw_431 dX9_count_65 ?_
    refine v_getI (pc := 68) (q := 0) zk3 lx_1 rfl tw_118 dX9_count_68 ?_
    refine v_aload_n (pc := 71) dX9_count_71 rfl ?_
    refine v_getR (pc := 72) (q := 1) zk9 lx_0 rfl rx_0_1 tw_432 dX9_count_72 ?_
    refine v_callV (pc := 75) (As := []) (cTree_fresh l G  M) zc_X8_fresh zk8 rfl lx_5 tw_511 (by decide) (Nat.le_of_ble_eq_true rfl) dX9_count_75 (fun r2 M1 => ?_)
    refine v_ifP (fun hgr2 => ?_)
    subst hgr2
    refine v_getI (pc := 78) (q := 1) zk8 lx_5 rfl tw_162 dX9_count_78 ?_
    refine v_isub (pc := 81) dX9_count_81 ?_
    exact v_iret (pc := 82) dX9_count_82
  · refine v_aload_n (pc := 83) dX9_count_83 rfl ?_
    refine v_getR (pc := 84) (q := 1) zk9 lx_0 rfl rx_0_1 tw_432 dX9_count_84 ?_
    refine v_callV (pc := 87) (As := []) (cTree_fresh l G  M) zc_X8_fresh zk8 rfl lx_5 tw_511 (by decide) (Nat.le_of_ble_eq_true rfl) dX9_count_87 (fun r4 M3 => ?_)
    refine v_ifP (fun hgr4 => ?_)
    subst hgr4
    refine v_getI (pc := 90) (q := 1) zk8 lx_5 rfl tw_162 dX9_count_90 ?_
    exact v_iret (pc := 93) dX9_count_93
  · refine v_aload_n (pc := 94) dX9_count_94 rfl ?_
    refine v_callV (pc := 95) (As := []) (cNN_kindsLearned l G  M) zc_X9_kindsLearned zk9 rfl lx_0 tw_541 (by decide) (Nat.le_of_ble_eq_true rfl) dX9_count_95 (fun r6 M5 => ?_)
    exact v_iret (pc := 98) dX9_count_98
  · refine v_aload_n (pc := 99) dX9_count_99 rfl ?_
    refine v_getR (pc := 100) (q := 7) zk9 lx_0 rfl rx_0_7 tw_438 dX9_count_100 ?_
    refine v_getI (pc := 103) (q := 2) zk6 lx_56 rfl tw_384 dX9_count_103 ?_
    exact v_iret (pc := 106) dX9_count_106
  · refine v_aload_n (pc := 107) dX9_count_107 rfl ?_
    refine v_getR (pc := 108) (q := 7) zk9 lx_0 rfl rx_0_7 tw_438 dX9_count_108 ?_
    refine v_getI (pc := 111) (q := 11) zk6 lx_56 rfl tw_400 dX9_count_111 ?_
    exact v_iret (pc := 114) dX9_count_114
  · refine v_aload_n (pc := 115) dX9_count_115 rfl ?_
    refine v_getR (pc := 116) (q := 0) zk9 lx_0 rfl rx_0_0 tw_431 dX9_count_116 ?_
    refine v_callV (pc := 119) (As := []) (cNet_mostLines l G  M) zc_X3_mostLines zk3 rfl lx_1 tw_545 (by decide) (Nat.le_of_ble_eq_true rfl) dX9_count_119 (fun r8 M7 => ?_)
    exact v_iret (pc := 122) dX9_count_122
  · refine v_sipush (pc := 123) (-1002) dX9_count_123 (by decide) ?_
    exact v_iret (pc := 126) dX9_count_126
theorem cNN_count (l : Launch) (G : zG) (v1 : Int32) (M : zM) : zC eI l G zLX zRX 4 yX9_count cX9_count 2 (some .int) [.ref 0, .int v1] M (fNN_count v1 M) := zC.of (by decide) (Nat.le_of_ble_eq_true rfl) (v_sub (wNN_count l G v1 M) rfl)
theorem dX9_told_0 : decode cX9_told 0 = .ok (.aload_n 0, 1) := by decide +kernel
theorem dX9_told_1 : decode cX9_told 1 = .ok (.getfield 10, 3) := by decide +kernel
theorem dX9_told_4 : decode cX9_told 4 = .ok (.iload_n 1, 1) := by decide +kernel
theorem dX9_told_5 : decode cX9_told 5 = .ok (.invokevirtual 124, 3) := by decide +kernel
theorem dX9_told_8 : decode cX9_told 8 = .ok (.ifCond .ne 7, 3) := by decide +kernel
theorem dX9_told_11 : decode cX9_told 11 = .ok (.sipush (-1001), 3) := by decide +kernel
theorem dX9_told_14 : decode cX9_told 14 = .ok (.ireturn, 1) := by decide +kernel
theorem dX9_told_15 : decode cX9_told 15 = .ok (.iload_n 2, 1) := by decide +kernel
theorem dX9_told_16 : decode cX9_told 16 = .ok (.tableswitch 105 0 5 #[40, 53, 66, 75, 87, 96], 40) := by decide +kernel
theorem dX9_told_56 : decode cX9_told 56 = .ok (.aload_n 0, 1) := by decide +kernel
theorem dX9_told_57 : decode cX9_told 57 = .ok (.getfield 21, 3) := by decide +kernel
theorem dX9_told_60 : decode cX9_told 60 = .ok (.invokevirtual 105, 3) := by decide +kernel
theorem dX9_told_63 : decode cX9_told 63 = .ok (.getfield 127, 3) := by decide +kernel
theorem dX9_told_66 : decode cX9_told 66 = .ok (.iload_n 1, 1) := by decide +kernel
theorem dX9_told_67 : decode cX9_told 67 = .ok (.iaload, 1) := by decide +kernel
theorem dX9_told_68 : decode cX9_told 68 = .ok (.ireturn, 1) := by decide +kernel
theorem dX9_told_69 : decode cX9_told 69 = .ok (.aload_n 0, 1) := by decide +kernel
theorem dX9_told_70 : decode cX9_told 70 = .ok (.getfield 21, 3) := by decide +kernel
theorem dX9_told_73 : decode cX9_told 73 = .ok (.invokevirtual 105, 3) := by decide +kernel
theorem dX9_told_76 : decode cX9_told 76 = .ok (.getfield 131, 3) := by decide +kernel
theorem dX9_told_79 : decode cX9_told 79 = .ok (.iload_n 1, 1) := by decide +kernel
theorem dX9_told_80 : decode cX9_told 80 = .ok (.iaload, 1) := by decide +kernel
theorem dX9_told_81 : decode cX9_told 81 = .ok (.ireturn, 1) := by decide +kernel
theorem dX9_told_82 : decode cX9_told 82 = .ok (.aload_n 0, 1) := by decide +kernel
theorem dX9_told_83 : decode cX9_told 83 = .ok (.getfield 10, 3) := by decide +kernel
theorem dX9_told_86 : decode cX9_told 86 = .ok (.iload_n 1, 1) := by decide +kernel
theorem dX9_told_87 : decode cX9_told 87 = .ok (.invokevirtual 134, 3) := by decide +kernel
theorem dX9_told_90 : decode cX9_told 90 = .ok (.ireturn, 1) := by decide +kernel
theorem dX9_told_91 : decode cX9_told 91 = .ok (.aload_n 0, 1) := by decide +kernel
theorem dX9_told_92 : decode cX9_told 92 = .ok (.getfield 21, 3) := by decide +kernel
theorem dX9_told_95 : decode cX9_told 95 = .ok (.invokevirtual 105, 3) := by decide +kernel
theorem dX9_told_98 : decode cX9_told 98 = .ok (.iload_n 1, 1) := by decide +kernel
theorem dX9_told_99 : decode cX9_told 99 = .ok (.invokevirtual 138, 3) := by decide +kernel
theorem dX9_told_102 : decode cX9_told 102 = .ok (.ireturn, 1) := by decide +kernel
theorem dX9_told_103 : decode cX9_told 103 = .ok (.aload_n 0, 1) := by decide +kernel
theorem dX9_told_104 : decode cX9_told 104 = .ok (.getfield 30, 3) := by decide +kernel
theorem dX9_told_107 : decode cX9_told 107 = .ok (.iload_n 1, 1) := by decide +kernel
theorem dX9_told_108 : decode cX9_told 108 = .ok (.invokevirtual 141, 3) := by decide +kernel
theorem dX9_told_111 : decode cX9_told 111 = .ok (.ireturn, 1) := by decide +kernel
theorem dX9_told_112 : decode cX9_told 112 = .ok (.aload_n 0, 1) := by decide +kernel
theorem dX9_told_113 : decode cX9_told 113 = .ok (.getfield 30, 3) := by decide +kernel
theorem dX9_told_116 : decode cX9_told 116 = .ok (.iload_n 1, 1) := by decide +kernel
theorem dX9_told_117 : decode cX9_told 117 = .ok (.invokevirtual 144, 3) := by decide +kernel
theorem dX9_told_120 : decode cX9_told 120 = .ok (.ireturn, 1) := by decide +kernel
theorem dX9_told_121 : decode cX9_told 121 = .ok (.sipush (-1002), 3) := by decide +kernel
theorem dX9_told_124 : decode cX9_told 124 = .ok (.ireturn, 1) := by decide +kernel
theorem wNN_told (l : Launch) (G : zG) (v1 : Int32) (v2 : Int32) (M : zM) : zV eI l G zLX zRX 7 yX9_told cX9_told 3 (some .int) 0 [(0, .ref 0), (1, .int v1), (2, .int v2)] [] M (fNN_told v1 v2 M) := by
  rw [fNN_told]
  refine v_aload_n (pc := 0) dX9_told_0 rfl ?_
  refine v_getR (pc := 1) (q := 0) zk9 lx_0 rfl rx_0_0 tw_431 dX9_told_1 ?_
  refine v_iload_n (pc := 4) dX9_told_4 rfl ?_
  refine v_callV (pc := 5) (As := [.int v1]) (cNet_hasPost l G v1 M) zc_X3_hasPost zk3 rfl lx_1 tw_566 (by decide) (Nat.le_of_ble_eq_true rfl) dX9_told_5 (fun r2 M1 => ?_)
  refine v_if_ne (pc := 8) 15 dX9_told_8 (by decide) ?_ ?_
  · refine v_iload_n (pc := 15) dX9_told_15 rfl ?_
    refine v_tsw (pc := 16) (dt := 121) [56, 69, 82, 91, 103, 112] [_, _, _, _, _, _] dX9_told_16 rfl (by decide) (by decide) (by decide) (by decide) ⟨?_, ?_, ?_, ?_, ?_, ?_, trivial⟩ ?_
    · refine v_aload_n (pc := 56) dX9_told_56 rfl ?_
      refine v_getR (pc := 57) (q := 1) zk9 lx_0 rfl rx_0_1 tw_432 dX9_told_57 ?_
      refine v_callV (pc := 60) (As := []) (cTree_fresh l G  M1) zc_X8_fresh zk8 rfl lx_5 tw_511 (by decide) (Nat.le_of_ble_eq_true rfl) dX9_told_60 (fun r4 M3 => ?_)
      refine v_ifP (fun hgr4 => ?_)
      subst hgr4
      refine v_getR (pc := 63) (q := 3) zk8 lx_5 rfl rx_5_3 tw_167 dX9_told_63 ?_
      refine v_iload_n (pc := 66) dX9_told_66 rfl ?_
      refine v_iald (pc := 67) lx_6 dX9_told_67 (fun x5 => ?_)
      exact v_iret (pc := 68) dX9_told_68
    · refine v_aload_n (pc := 69) dX9_told_69 rfl ?_
      refine v_getR (pc := 70) (q := 1) zk9 lx_0 rfl rx_0_1 tw_432 dX9_told_70 ?_
      refine v_callV (pc := 73) (As := []) (cTree_fresh l G  M1) zc_X8_fresh zk8 rfl lx_5 tw_511 (by decide) (Nat.le_of_ble_eq_true rfl) dX9_told_73 (fun r7 M6 => ?_)
      refine v_ifP (fun hgr7 => ?_)
      subst hgr7
      refine v_getR (pc := 76) (q := 4) zk8 lx_5 rfl rx_5_4 tw_171 dX9_told_76 ?_
      refine v_iload_n (pc := 79) dX9_told_79 rfl ?_
      refine v_iald (pc := 80) lx_7 dX9_told_80 (fun x8 => ?_)
      exact v_iret (pc := 81) dX9_told_81
    · refine v_aload_n (pc := 82) dX9_told_82 rfl ?_
      refine v_getR (pc := 83) (q := 0) zk9 lx_0 rfl rx_0_0 tw_431 dX9_told_83 ?_
      refine v_iload_n (pc := 86) dX9_told_86 rfl ?_
      refine v_callV (pc := 87) (As := [.int v1]) (cNet_degree l G v1 M1) zc_X3_degree zk3 rfl lx_1 tw_567 (by decide) (Nat.le_of_ble_eq_true rfl) dX9_told_87 (fun r10 M9 => ?_)
      exact v_iret (pc := 90) dX9_told_90
    · refine v_aload_n (pc := 91) dX9_told_91 rfl ?_
      refine v_getR (pc := 92) (q := 1) zk9 lx_0 rfl rx_0_1 tw_432 dX9_told_92 ?_
      refine v_callV (pc := 95) (As := []) (cTree_fresh l G  M1) zc_X8_fresh zk8 rfl lx_5 tw_511 (by decide) (Nat.le_of_ble_eq_true rfl) dX9_told_95 (fun r12 M11 => ?_)
      refine v_ifP (fun hgr12 => ?_)
      subst hgr12
      refine v_iload_n (pc := 98) dX9_told_98 rfl ?_
      refine v_callV (pc := 99) (As := [.int v1]) (cTree_depth l G v1 M11) zc_X8_depth zk8 rfl lx_5 tw_568 (by decide) (Nat.le_of_ble_eq_true rfl) dX9_told_99 (fun r14 M13 => ?_)
      exact v_iret (pc := 102) dX9_told_102
    · refine v_aload_n (pc := 103) dX9_told_103 rfl ?_
      refine v_getR (pc := 104) (q := 2) zk9 lx_0 rfl rx_0_2 tw_433 dX9_told_104 ?_
      refine v_iload_n (pc := 107) dX9_told_107 rfl ?_
      refine v_callV (pc := 108) (As := [.int v1]) (cLabels_turnOf l G v1 M1) zc_X1_turnOf zk1 rfl lx_14 tw_573 (by decide) (Nat.le_of_ble_eq_true rfl) dX9_told_108 (fun r16 M15 => ?_)
      exact v_iret (pc := 111) dX9_told_111
    · refine v_aload_n (pc := 112) dX9_told_112 rfl ?_
      refine v_getR (pc := 113) (q := 2) zk9 lx_0 rfl rx_0_2 tw_433 dX9_told_113 ?_
      refine v_iload_n (pc := 116) dX9_told_116 rfl ?_
      refine v_callV (pc := 117) (As := [.int v1]) (cLabels_rankOf l G v1 M1) zc_X1_rankOf zk1 rfl lx_14 tw_629 (by decide) (Nat.le_of_ble_eq_true rfl) dX9_told_117 (fun r18 M17 => ?_)
      exact v_iret (pc := 120) dX9_told_120
    · refine v_sipush (pc := 121) (-1002) dX9_told_121 (by decide) ?_
      exact v_iret (pc := 124) dX9_told_124
  · refine v_sipush (pc := 11) (-1001) dX9_told_11 (by decide) ?_
    exact v_iret (pc := 14) dX9_told_14
theorem cNN_told (l : Launch) (G : zG) (v1 : Int32) (v2 : Int32) (M : zM) : zC eI l G zLX zRX 7 yX9_told cX9_told 3 (some .int) [.ref 0, .int v1, .int v2] M (fNN_told v1 v2 M) := zC.of (by decide) (Nat.le_of_ble_eq_true rfl) (v_sub (wNN_told l G v1 v2 M) rfl)
theorem dX9_lines_0 : decode cX9_lines 0 = .ok (.aload_n 0, 1) := by decide +kernel
theorem dX9_lines_1 : decode cX9_lines 1 = .ok (.getfield 10, 3) := by decide +kernel
theorem dX9_lines_4 : decode cX9_lines 4 = .ok (.iload_n 1, 1) := by decide +kernel
theorem dX9_lines_5 : decode cX9_lines 5 = .ok (.invokevirtual 98, 3) := by decide +kernel
theorem dX9_lines_8 : decode cX9_lines 8 = .ok (.ifCond .ne 7, 3) := by decide +kernel
theorem dX9_lines_11 : decode cX9_lines 11 = .ok (.sipush (-1001), 3) := by decide +kernel
theorem dX9_lines_14 : decode cX9_lines 14 = .ok (.ireturn, 1) := by decide +kernel
theorem dX9_lines_15 : decode cX9_lines 15 = .ok (.iload_n 2, 1) := by decide +kernel
theorem dX9_lines_16 : decode cX9_lines 16 = .ok (.tableswitch 80 0 3 #[32, 42, 52, 67], 32) := by decide +kernel
theorem dX9_lines_48 : decode cX9_lines 48 = .ok (.aload_n 0, 1) := by decide +kernel
theorem dX9_lines_49 : decode cX9_lines 49 = .ok (.getfield 10, 3) := by decide +kernel
theorem dX9_lines_52 : decode cX9_lines 52 = .ok (.getfield 147, 3) := by decide +kernel
theorem dX9_lines_55 : decode cX9_lines 55 = .ok (.iload_n 1, 1) := by decide +kernel
theorem dX9_lines_56 : decode cX9_lines 56 = .ok (.iaload, 1) := by decide +kernel
theorem dX9_lines_57 : decode cX9_lines 57 = .ok (.ireturn, 1) := by decide +kernel
theorem dX9_lines_58 : decode cX9_lines 58 = .ok (.aload_n 0, 1) := by decide +kernel
theorem dX9_lines_59 : decode cX9_lines 59 = .ok (.getfield 10, 3) := by decide +kernel
theorem dX9_lines_62 : decode cX9_lines 62 = .ok (.getfield 150, 3) := by decide +kernel
theorem dX9_lines_65 : decode cX9_lines 65 = .ok (.iload_n 1, 1) := by decide +kernel
theorem dX9_lines_66 : decode cX9_lines 66 = .ok (.iaload, 1) := by decide +kernel
theorem dX9_lines_67 : decode cX9_lines 67 = .ok (.ireturn, 1) := by decide +kernel
theorem dX9_lines_68 : decode cX9_lines 68 = .ok (.aload_n 0, 1) := by decide +kernel
theorem dX9_lines_69 : decode cX9_lines 69 = .ok (.getfield 21, 3) := by decide +kernel
theorem dX9_lines_72 : decode cX9_lines 72 = .ok (.invokevirtual 105, 3) := by decide +kernel
theorem dX9_lines_75 : decode cX9_lines 75 = .ok (.getfield 153, 3) := by decide +kernel
theorem dX9_lines_78 : decode cX9_lines 78 = .ok (.iload_n 1, 1) := by decide +kernel
theorem dX9_lines_79 : decode cX9_lines 79 = .ok (.ishr, 1) := by decide +kernel
theorem dX9_lines_80 : decode cX9_lines 80 = .ok (.iconst 1, 1) := by decide +kernel
theorem dX9_lines_81 : decode cX9_lines 81 = .ok (.iand, 1) := by decide +kernel
theorem dX9_lines_82 : decode cX9_lines 82 = .ok (.ireturn, 1) := by decide +kernel
theorem dX9_lines_83 : decode cX9_lines 83 = .ok (.aload_n 0, 1) := by decide +kernel
theorem dX9_lines_84 : decode cX9_lines 84 = .ok (.getfield 21, 3) := by decide +kernel
theorem dX9_lines_87 : decode cX9_lines 87 = .ok (.invokevirtual 105, 3) := by decide +kernel
theorem dX9_lines_90 : decode cX9_lines 90 = .ok (.getfield 156, 3) := by decide +kernel
theorem dX9_lines_93 : decode cX9_lines 93 = .ok (.iload_n 1, 1) := by decide +kernel
theorem dX9_lines_94 : decode cX9_lines 94 = .ok (.iaload, 1) := by decide +kernel
theorem dX9_lines_95 : decode cX9_lines 95 = .ok (.ireturn, 1) := by decide +kernel
theorem dX9_lines_96 : decode cX9_lines 96 = .ok (.sipush (-1002), 3) := by decide +kernel
theorem dX9_lines_99 : decode cX9_lines 99 = .ok (.ireturn, 1) := by decide +kernel
theorem wNN_lines (l : Launch) (G : zG) (v1 : Int32) (v2 : Int32) (M : zM) : zV eI l G zLX zRX 4 yX9_lines cX9_lines 3 (some .int) 0 [(0, .ref 0), (1, .int v1), (2, .int v2)] [] M (fNN_lines v1 v2 M) := by
  rw [fNN_lines]
  refine v_aload_n (pc := 0) dX9_lines_0 rfl ?_
  refine v_getR (pc := 1) (q := 0) zk9 lx_0 rfl rx_0_0 tw_431 dX9_lines_1 ?_
  refine v_iload_n (pc := 4) dX9_lines_4 rfl ?_
  refine v_callV (pc := 5) (As := [.int v1]) (cNet_hasLine l G v1 M) zc_X3_hasLine zk3 rfl lx_1 tw_499 (by decide) (Nat.le_of_ble_eq_true rfl) dX9_lines_5 (fun r2 M1 => ?_)
  refine v_if_ne (pc := 8) 15 dX9_lines_8 (by decide) ?_ ?_
  · refine v_iload_n (pc := 15) dX9_lines_15 rfl ?_
    refine v_tsw (pc := 16) (dt := 96) [48, 58, 68, 83] [_, _, _, _] dX9_lines_16 rfl (by decide) (by decide) (by decide) (by decide) ⟨?_, ?_, ?_, ?_, trivial⟩ ?_
    · refine v_aload_n (pc := 48) dX9_lines_48 rfl ?_
      refine v_getR (pc := 49) (q := 0) zk9 lx_0 rfl rx_0_0 tw_431 dX9_lines_49 ?_
      refine v_getR (pc := 52) (q := 3) zk3 lx_1 rfl rx_1_3 tw_131 dX9_lines_52 ?_
      refine v_iload_n (pc := 55) dX9_lines_55 rfl ?_
      refine v_iald (pc := 56) lx_2 dX9_lines_56 (fun x3 => ?_)
      exact v_iret (pc := 57) dX9_lines_57
    · refine v_aload_n (pc := 58) dX9_lines_58 rfl ?_
      refine v_getR (pc := 59) (q := 0) zk9 lx_0 rfl rx_0_0 tw_431 dX9_lines_59 ?_
      refine v_getR (pc := 62) (q := 4) zk3 lx_1 rfl rx_1_4 tw_135 dX9_lines_62 ?_
      refine v_iload_n (pc := 65) dX9_lines_65 rfl ?_
      refine v_iald (pc := 66) lx_3 dX9_lines_66 (fun x4 => ?_)
      exact v_iret (pc := 67) dX9_lines_67
    · refine v_aload_n (pc := 68) dX9_lines_68 rfl ?_
      refine v_getR (pc := 69) (q := 1) zk9 lx_0 rfl rx_0_1 tw_432 dX9_lines_69 ?_
      refine v_callV (pc := 72) (As := []) (cTree_fresh l G  M1) zc_X8_fresh zk8 rfl lx_5 tw_511 (by decide) (Nat.le_of_ble_eq_true rfl) dX9_lines_72 (fun r6 M5 => ?_)
      refine v_ifP (fun hgr6 => ?_)
      subst hgr6
      refine v_getI (pc := 75) (q := 2) zk8 lx_5 rfl tw_164 dX9_lines_75 ?_
      refine v_iload_n (pc := 78) dX9_lines_78 rfl ?_
      refine v_ishr (pc := 79) dX9_lines_79 ?_
      refine v_iconst (pc := 80) 1 dX9_lines_80 (by decide) ?_
      refine v_iand (pc := 81) dX9_lines_81 ?_
      exact v_iret (pc := 82) dX9_lines_82
    · refine v_aload_n (pc := 83) dX9_lines_83 rfl ?_
      refine v_getR (pc := 84) (q := 1) zk9 lx_0 rfl rx_0_1 tw_432 dX9_lines_84 ?_
      refine v_callV (pc := 87) (As := []) (cTree_fresh l G  M1) zc_X8_fresh zk8 rfl lx_5 tw_511 (by decide) (Nat.le_of_ble_eq_true rfl) dX9_lines_87 (fun r8 M7 => ?_)
      refine v_ifP (fun hgr8 => ?_)
      subst hgr8
      refine v_getR (pc := 90) (q := 8) zk8 lx_5 rfl rx_5_8 tw_182 dX9_lines_90 ?_
      refine v_iload_n (pc := 93) dX9_lines_93 rfl ?_
      refine v_iald (pc := 94) lx_11 dX9_lines_94 (fun x9 => ?_)
      exact v_iret (pc := 95) dX9_lines_95
    · refine v_sipush (pc := 96) (-1002) dX9_lines_96 (by decide) ?_
      exact v_iret (pc := 99) dX9_lines_99
  · refine v_sipush (pc := 11) (-1001) dX9_lines_11 (by decide) ?_
    exact v_iret (pc := 14) dX9_lines_14
theorem cNN_lines (l : Launch) (G : zG) (v1 : Int32) (v2 : Int32) (M : zM) : zC eI l G zLX zRX 4 yX9_lines cX9_lines 3 (some .int) [.ref 0, .int v1, .int v2] M (fNN_lines v1 v2 M) := zC.of (by decide) (Nat.le_of_ble_eq_true rfl) (v_sub (wNN_lines l G v1 v2 M) rfl)
theorem dX9_isNamedKind_0 : decode cX9_isNamedKind 0 = .ok (.iload_n 0, 1) := by decide +kernel
theorem dX9_isNamedKind_1 : decode cX9_isNamedKind 1 = .ok (.ifCond .lt 12, 3) := by decide +kernel
theorem dX9_isNamedKind_4 : decode cX9_isNamedKind 4 = .ok (.iload_n 0, 1) := by decide +kernel
theorem dX9_isNamedKind_5 : decode cX9_isNamedKind 5 = .ok (.iconst 3, 1) := by decide +kernel
theorem dX9_isNamedKind_6 : decode cX9_isNamedKind 6 = .ok (.if_icmp .ge 7, 3) := by decide +kernel
theorem dX9_isNamedKind_9 : decode cX9_isNamedKind 9 = .ok (.iconst 1, 1) := by decide +kernel
theorem dX9_isNamedKind_10 : decode cX9_isNamedKind 10 = .ok (.goto 4, 3) := by decide +kernel
theorem dX9_isNamedKind_13 : decode cX9_isNamedKind 13 = .ok (.iconst 0, 1) := by decide +kernel
theorem dX9_isNamedKind_14 : decode cX9_isNamedKind 14 = .ok (.ireturn, 1) := by decide +kernel
theorem wNN_isNamedKind (l : Launch) (G : zG) (v0 : Int32) (M : zM) : zV eI l G zLX zRX 1 yX9_isNamedKind cX9_isNamedKind 1 (some .boolean) 0 [(0, .int v0)] [] M (fNN_isNamedKind v0 M) := by
  rw [fNN_isNamedKind]
  refine v_iload_n (pc := 0) dX9_isNamedKind_0 rfl ?_
  refine v_if_lt (pc := 1) 13 dX9_isNamedKind_1 (by decide) ?_ ?_
  · refine v_iconst (pc := 13) 0 dX9_isNamedKind_13 (by decide) ?_
    exact v_zret (pc := 14) dX9_isNamedKind_14
  · refine v_iload_n (pc := 4) dX9_isNamedKind_4 rfl ?_
    refine v_iconst (pc := 5) 3 dX9_isNamedKind_5 (by decide) ?_
    refine v_icmp_ge (pc := 6) 13 dX9_isNamedKind_6 (by decide) ?_ ?_
    · refine v_iconst (pc := 13) 0 dX9_isNamedKind_13 (by decide) ?_
      exact v_zret (pc := 14) dX9_isNamedKind_14
    · refine v_iconst (pc := 9) 1 dX9_isNamedKind_9 (by decide) ?_
      refine v_goto (pc := 10) 14 dX9_isNamedKind_10 (by decide) ?_
      exact v_zret (pc := 14) dX9_isNamedKind_14
theorem cNN_isNamedKind (l : Launch) (G : zG) (v0 : Int32) (M : zM) : zC eI l G zLX zRX 1 yX9_isNamedKind cX9_isNamedKind 1 (some .boolean) [.int v0] M (fNN_isNamedKind v0 M) := zC.of (by decide) (Nat.le_of_ble_eq_true rfl) (v_sub (wNN_isNamedKind l G v0 M) rfl)
theorem dX9_name_0 : decode cX9_name 0 = .ok (.aload_n 0, 1) := by decide +kernel
theorem dX9_name_1 : decode cX9_name 1 = .ok (.getfield 10, 3) := by decide +kernel
theorem dX9_name_4 : decode cX9_name 4 = .ok (.iload_n 2, 1) := by decide +kernel
theorem dX9_name_5 : decode cX9_name 5 = .ok (.invokevirtual 124, 3) := by decide +kernel
theorem dX9_name_8 : decode cX9_name 8 = .ok (.ifCond .ne 7, 3) := by decide +kernel
theorem dX9_name_11 : decode cX9_name 11 = .ok (.sipush (-1001), 3) := by decide +kernel
theorem dX9_name_14 : decode cX9_name 14 = .ok (.ireturn, 1) := by decide +kernel
theorem dX9_name_15 : decode cX9_name 15 = .ok (.iload_n 1, 1) := by decide +kernel
theorem dX9_name_16 : decode cX9_name 16 = .ok (.iconst 3, 1) := by decide +kernel
theorem dX9_name_17 : decode cX9_name 17 = .ok (.if_icmp .ne 33, 3) := by decide +kernel
theorem dX9_name_20 : decode cX9_name 20 = .ok (.iload_n 3, 1) := by decide +kernel
theorem dX9_name_21 : decode cX9_name 21 = .ok (.iconst (-1), 1) := by decide +kernel
theorem dX9_name_22 : decode cX9_name 22 = .ok (.if_icmp .ne 7, 3) := by decide +kernel
theorem dX9_name_25 : decode cX9_name 25 = .ok (.iconst 1, 1) := by decide +kernel
theorem dX9_name_26 : decode cX9_name 26 = .ok (.goto 23, 3) := by decide +kernel
theorem dX9_name_29 : decode cX9_name 29 = .ok (.iload_n 3, 1) := by decide +kernel
theorem dX9_name_30 : decode cX9_name 30 = .ok (.ifCond .ne 18, 3) := by decide +kernel
theorem dX9_name_33 : decode cX9_name 33 = .ok (.aload_n 0, 1) := by decide +kernel
theorem dX9_name_34 : decode cX9_name 34 = .ok (.getfield 21, 3) := by decide +kernel
theorem dX9_name_37 : decode cX9_name 37 = .ok (.invokevirtual 105, 3) := by decide +kernel
theorem dX9_name_40 : decode cX9_name 40 = .ok (.getfield 159, 3) := by decide +kernel
theorem dX9_name_43 : decode cX9_name 43 = .ok (.iload_n 2, 1) := by decide +kernel
theorem dX9_name_44 : decode cX9_name 44 = .ok (.iaload, 1) := by decide +kernel
theorem dX9_name_45 : decode cX9_name 45 = .ok (.goto 4, 3) := by decide +kernel
theorem dX9_name_48 : decode cX9_name 48 = .ok (.iconst (-1), 1) := by decide +kernel
theorem dX9_name_49 : decode cX9_name 49 = .ok (.ireturn, 1) := by decide +kernel
theorem dX9_name_50 : decode cX9_name 50 = .ok (.iload_n 1, 1) := by decide +kernel
theorem dX9_name_51 : decode cX9_name 51 = .ok (.invokestatic 162, 3) := by decide +kernel
theorem dX9_name_54 : decode cX9_name 54 = .ok (.ifCond .ne 7, 3) := by decide +kernel
theorem dX9_name_57 : decode cX9_name 57 = .ok (.sipush (-1002), 3) := by decide +kernel
theorem dX9_name_60 : decode cX9_name 60 = .ok (.ireturn, 1) := by decide +kernel
theorem dX9_name_61 : decode cX9_name 61 = .ok (.aload_n 0, 1) := by decide +kernel
theorem dX9_name_62 : decode cX9_name 62 = .ok (.getfield 30, 3) := by decide +kernel
theorem dX9_name_65 : decode cX9_name 65 = .ok (.iload_n 1, 1) := by decide +kernel
theorem dX9_name_66 : decode cX9_name 66 = .ok (.invokevirtual 165, 3) := by decide +kernel
theorem dX9_name_69 : decode cX9_name 69 = .ok (.iload_n 2, 1) := by decide +kernel
theorem dX9_name_70 : decode cX9_name 70 = .ok (.iload_n 3, 1) := by decide +kernel
theorem dX9_name_71 : decode cX9_name 71 = .ok (.invokevirtual 169, 3) := by decide +kernel
theorem dX9_name_74 : decode cX9_name 74 = .ok (.ireturn, 1) := by decide +kernel
theorem wNN_name (l : Launch) (G : zG) (v1 : Int32) (v2 : Int32) (v3 : Int32) (M : zM) : zV eI l G zLX zRX 6 yX9_name cX9_name 4 (some .int) 0 [(0, .ref 0), (1, .int v1), (2, .int v2), (3, .int v3)] [] M (fNN_name v1 v2 v3 M) := by
  rw [fNN_name]
  refine v_aload_n (pc := 0) dX9_name_0 rfl ?_
  refine v_getR (pc := 1) (q := 0) zk9 lx_0 rfl rx_0_0 tw_431 dX9_name_1 ?_
  refine v_iload_n (pc := 4) dX9_name_4 rfl ?_
  refine v_callV (pc := 5) (As := [.int v2]) (cNet_hasPost l G v2 M) zc_X3_hasPost zk3 rfl lx_1 tw_566 (by decide) (Nat.le_of_ble_eq_true rfl) dX9_name_5 (fun r2 M1 => ?_)
  refine v_if_ne (pc := 8) 15 dX9_name_8 (by decide) ?_ ?_
  · refine v_iload_n (pc := 15) dX9_name_15 rfl ?_
    refine v_iconst (pc := 16) 3 dX9_name_16 (by decide) ?_
    refine v_icmp_ne (pc := 17) 50 dX9_name_17 (by decide) ?_ ?_
    · refine v_iload_n (pc := 50) dX9_name_50 rfl ?_
      refine v_callS (pc := 51) (As := [.int v1]) (cNN_isNamedKind l G v1 M1) zc_X9_isNamedKind tw_641 (by decide) (Nat.le_of_ble_eq_true rfl) dX9_name_51 (fun r4 M3 => ?_)
      refine v_if_ne (pc := 54) 61 dX9_name_54 (by decide) ?_ ?_
      · refine v_aload_n (pc := 61) dX9_name_61 rfl ?_
        refine v_getR (pc := 62) (q := 2) zk9 lx_0 rfl rx_0_2 tw_433 dX9_name_62 ?_
        refine v_iload_n (pc := 65) dX9_name_65 rfl ?_
        refine v_callV (pc := 66) (As := [.int v1]) (cLabels_now l G v1 M3) zc_X1_now zk1 rfl lx_14 tw_644 (by decide) (Nat.le_of_ble_eq_true rfl) dX9_name_66 (fun r6 M5 => ?_)
        refine v_ifP (fun hgr6 => ?_)
        have hr6 := zN_of hgr6
        refine v_iload_n (pc := 69) dX9_name_69 rfl ?_
        refine v_iload_n (pc := 70) dX9_name_70 rfl ?_
        refine v_callV (pc := 71) (As := [.int v2, .int v3]) (cNames_number l G r6 hr6 v2 v3 M5) zc_X2_number zk2 rfl hr6.1 tw_645 (by decide) (Nat.le_of_ble_eq_true rfl) dX9_name_71 (fun r8 M7 => ?_)
        exact v_iret (pc := 74) dX9_name_74
      · refine v_sipush (pc := 57) (-1002) dX9_name_57 (by decide) ?_
        exact v_iret (pc := 60) dX9_name_60
    · refine v_iload_n (pc := 20) dX9_name_20 rfl ?_
      refine v_iconst (pc := 21) (-1) dX9_name_21 (by decide) ?_
      refine v_icmp_ne (pc := 22) 29 dX9_name_22 (by decide) ?_ ?_
      · refine v_iload_n (pc := 29) dX9_name_29 rfl ?_
        refine v_if_ne (pc := 30) 48 dX9_name_30 (by decide) ?_ ?_
        · refine v_iconst (pc := 48) (-1) dX9_name_48 (by decide) ?_
          exact v_iret (pc := 49) dX9_name_49
        · refine v_aload_n (pc := 33) dX9_name_33 rfl ?_
          refine v_getR (pc := 34) (q := 1) zk9 lx_0 rfl rx_0_1 tw_432 dX9_name_34 ?_
          refine v_callV (pc := 37) (As := []) (cTree_fresh l G  M1) zc_X8_fresh zk8 rfl lx_5 tw_511 (by decide) (Nat.le_of_ble_eq_true rfl) dX9_name_37 (fun r10 M9 => ?_)
          refine v_ifP (fun hgr10 => ?_)
          subst hgr10
          refine v_getR (pc := 40) (q := 5) zk8 lx_5 rfl rx_5_5 tw_175 dX9_name_40 ?_
          refine v_iload_n (pc := 43) dX9_name_43 rfl ?_
          refine v_iald (pc := 44) lx_8 dX9_name_44 (fun x11 => ?_)
          refine v_goto (pc := 45) 49 dX9_name_45 (by decide) ?_
          exact v_iret (pc := 49) dX9_name_49
      · refine v_iconst (pc := 25) 1 dX9_name_25 (by decide) ?_
        refine v_goto (pc := 26) 49 dX9_name_26 (by decide) ?_
        exact v_iret (pc := 49) dX9_name_49
  · refine v_sipush (pc := 11) (-1001) dX9_name_11 (by decide) ?_
    exact v_iret (pc := 14) dX9_name_14
theorem cNN_name (l : Launch) (G : zG) (v1 : Int32) (v2 : Int32) (v3 : Int32) (M : zM) : zC eI l G zLX zRX 6 yX9_name cX9_name 4 (some .int) [.ref 0, .int v1, .int v2, .int v3] M (fNN_name v1 v2 v3 M) := zC.of (by decide) (Nat.le_of_ble_eq_true rfl) (v_sub (wNN_name l G v1 v2 v3 M) rfl)
theorem dX9_bitsOf_0 : decode cX9_bitsOf 0 = .ok (.iload_n 1, 1) := by decide +kernel
theorem dX9_bitsOf_1 : decode cX9_bitsOf 1 = .ok (.iconst 3, 1) := by decide +kernel
theorem dX9_bitsOf_2 : decode cX9_bitsOf 2 = .ok (.if_icmp .ne 22, 3) := by decide +kernel
theorem dX9_bitsOf_5 : decode cX9_bitsOf 5 = .ok (.aload_n 0, 1) := by decide +kernel
theorem dX9_bitsOf_6 : decode cX9_bitsOf 6 = .ok (.getfield 10, 3) := by decide +kernel
theorem dX9_bitsOf_9 : decode cX9_bitsOf 9 = .ok (.getfield 76, 3) := by decide +kernel
theorem dX9_bitsOf_12 : decode cX9_bitsOf 12 = .ok (.aload_n 0, 1) := by decide +kernel
theorem dX9_bitsOf_13 : decode cX9_bitsOf 13 = .ok (.getfield 21, 3) := by decide +kernel
theorem dX9_bitsOf_16 : decode cX9_bitsOf 16 = .ok (.invokevirtual 105, 3) := by decide +kernel
theorem dX9_bitsOf_19 : decode cX9_bitsOf 19 = .ok (.getfield 109, 3) := by decide +kernel
theorem dX9_bitsOf_22 : decode cX9_bitsOf 22 = .ok (.isub, 1) := by decide +kernel
theorem dX9_bitsOf_23 : decode cX9_bitsOf 23 = .ok (.ireturn, 1) := by decide +kernel
theorem dX9_bitsOf_24 : decode cX9_bitsOf 24 = .ok (.iconst 1, 1) := by decide +kernel
theorem dX9_bitsOf_25 : decode cX9_bitsOf 25 = .ok (.istore_n 3, 1) := by decide +kernel
theorem dX9_bitsOf_26 : decode cX9_bitsOf 26 = .ok (.aload_n 0, 1) := by decide +kernel
theorem dX9_bitsOf_27 : decode cX9_bitsOf 27 = .ok (.getfield 10, 3) := by decide +kernel
theorem dX9_bitsOf_30 : decode cX9_bitsOf 30 = .ok (.getfield 76, 3) := by decide +kernel
theorem dX9_bitsOf_33 : decode cX9_bitsOf 33 = .ok (.iconst 1, 1) := by decide +kernel
theorem dX9_bitsOf_34 : decode cX9_bitsOf 34 = .ok (.isub, 1) := by decide +kernel
theorem dX9_bitsOf_35 : decode cX9_bitsOf 35 = .ok (.iconst 1, 1) := by decide +kernel
theorem dX9_bitsOf_36 : decode cX9_bitsOf 36 = .ok (.ishr, 1) := by decide +kernel
theorem dX9_bitsOf_37 : decode cX9_bitsOf 37 = .ok (.istore 4, 2) := by decide +kernel
theorem dX9_bitsOf_39 : decode cX9_bitsOf 39 = .ok (.iload 4, 2) := by decide +kernel
theorem dX9_bitsOf_41 : decode cX9_bitsOf 41 = .ok (.ifCond .le 15, 3) := by decide +kernel
theorem dX9_bitsOf_44 : decode cX9_bitsOf 44 = .ok (.iinc 3 1, 3) := by decide +kernel
theorem dX9_bitsOf_47 : decode cX9_bitsOf 47 = .ok (.iload 4, 2) := by decide +kernel
theorem dX9_bitsOf_49 : decode cX9_bitsOf 49 = .ok (.iconst 1, 1) := by decide +kernel
theorem dX9_bitsOf_50 : decode cX9_bitsOf 50 = .ok (.ishr, 1) := by decide +kernel
theorem dX9_bitsOf_51 : decode cX9_bitsOf 51 = .ok (.istore 4, 2) := by decide +kernel
theorem dX9_bitsOf_53 : decode cX9_bitsOf 53 = .ok (.goto (-14), 3) := by decide +kernel
theorem dX9_bitsOf_56 : decode cX9_bitsOf 56 = .ok (.iload_n 3, 1) := by decide +kernel
theorem dX9_bitsOf_57 : decode cX9_bitsOf 57 = .ok (.aload_n 0, 1) := by decide +kernel
theorem dX9_bitsOf_58 : decode cX9_bitsOf 58 = .ok (.getfield 30, 3) := by decide +kernel
theorem dX9_bitsOf_61 : decode cX9_bitsOf 61 = .ok (.iload_n 1, 1) := by decide +kernel
theorem dX9_bitsOf_62 : decode cX9_bitsOf 62 = .ok (.invokevirtual 165, 3) := by decide +kernel
theorem dX9_bitsOf_65 : decode cX9_bitsOf 65 = .ok (.getfield 299, 3) := by decide +kernel
theorem dX9_bitsOf_68 : decode cX9_bitsOf 68 = .ok (.iload_n 2, 1) := by decide +kernel
theorem dX9_bitsOf_69 : decode cX9_bitsOf 69 = .ok (.iaload, 1) := by decide +kernel
theorem dX9_bitsOf_70 : decode cX9_bitsOf 70 = .ok (.imul, 1) := by decide +kernel
theorem dX9_bitsOf_71 : decode cX9_bitsOf 71 = .ok (.ireturn, 1) := by decide +kernel
theorem wNN_bitsOf_39 (l : Launch) (G : zG) : ∀ (fuel : Nat) (v1 : Int32) (v2 : Int32) (v3 : Int32) (v4 : Int32) (M : zM), zV eI l G zLX zRX 6 yX9_bitsOf cX9_bitsOf 5 (some .int) 39 [(0, .ref 0), (1, .int v1), (2, .int v2), (3, .int v3), (4, .int v4)] [] M (fNN_bitsOf_39 fuel v1 v2 v3 v4 M) := by
  intro fuel
  induction fuel with
  | zero => intro v1 v2 v3 v4 M; exact v_none
  | succ fuel ih =>
    intro v1 v2 v3 v4 M
    rw [fNN_bitsOf_39]
    refine v_iload (pc := 39) dX9_bitsOf_39 rfl ?_
    refine v_if_le (pc := 41) 56 dX9_bitsOf_41 (by decide) ?_ ?_
    · refine v_iload_n (pc := 56) dX9_bitsOf_56 rfl ?_
      refine v_aload_n (pc := 57) dX9_bitsOf_57 rfl ?_
      refine v_getR (pc := 58) (q := 2) zk9 lx_0 rfl rx_0_2 tw_433 dX9_bitsOf_58 ?_
      refine v_iload_n (pc := 61) dX9_bitsOf_61 rfl ?_
      refine v_callV (pc := 62) (As := [.int v1]) (cLabels_now l G v1 M) zc_X1_now zk1 rfl lx_14 tw_644 (by decide) (Nat.le_of_ble_eq_true rfl) dX9_bitsOf_62 (fun r2 M1 => ?_)
      refine v_ifP (fun hgr2 => ?_)
      have hr2 := zN_of hgr2
      refine v_getR (pc := 65) (q := 3) zk2 hr2.1 rfl hr2.2.2.2.1 tw_236 dX9_bitsOf_65 ?_
      refine v_iload_n (pc := 68) dX9_bitsOf_68 rfl ?_
      refine v_iald (pc := 69) hr2.2.1 dX9_bitsOf_69 (fun x3 => ?_)
      refine v_imul (pc := 70) dX9_bitsOf_70 ?_
      exact v_iret (pc := 71) dX9_bitsOf_71
    · refine v_iinc (pc := 44) 1 dX9_bitsOf_44 rfl (by decide) (by decide) ?_
      refine v_iload (pc := 47) dX9_bitsOf_47 rfl ?_
      refine v_iconst (pc := 49) 1 dX9_bitsOf_49 (by decide) ?_
      refine v_ishr (pc := 50) dX9_bitsOf_50 ?_
      refine v_istoreL (pc := 51) dX9_bitsOf_51 (by decide) (fun u4_51 => ?_)
      refine v_goto (pc := 53) 39 dX9_bitsOf_53 (by decide) ?_
      exact v_sub (ih v1 v2 (v3 + 1) u4_51 M) rfl
theorem wNN_bitsOf (l : Launch) (G : zG) (v1 : Int32) (v2 : Int32) (M : zM) : zV eI l G zLX zRX 6 yX9_bitsOf cX9_bitsOf 5 (some .int) 0 [(0, .ref 0), (1, .int v1), (2, .int v2)] [] M (fNN_bitsOf v1 v2 M) := by
  rw [fNN_bitsOf]
  refine v_iload_n (pc := 0) dX9_bitsOf_0 rfl ?_
  refine v_iconst (pc := 1) 3 dX9_bitsOf_1 (by decide) ?_
  refine v_icmp_ne (pc := 2) 24 dX9_bitsOf_2 (by decide) ?_ ?_
  · refine v_iconst (pc := 24) 1 dX9_bitsOf_24 (by decide) ?_
    refine v_istore_n (pc := 25) dX9_bitsOf_25 (by decide) ?_
    refine v_aload_n (pc := 26) dX9_bitsOf_26 rfl ?_
    refine v_getR (pc := 27) (q := 0) zk9 lx_0 rfl rx_0_0 tw_431 dX9_bitsOf_27 ?_
    refine v_getI (pc := 30) (q := 0) zk3 lx_1 rfl tw_118 dX9_bitsOf_30 ?_
    refine v_iconst (pc := 33) 1 dX9_bitsOf_33 (by decide) ?_
    refine v_isub (pc := 34) dX9_bitsOf_34 ?_
    refine v_iconst (pc := 35) 1 dX9_bitsOf_35 (by decide) ?_
    refine v_ishr (pc := 36) dX9_bitsOf_36 ?_
    refine v_istoreL (pc := 37) dX9_bitsOf_37 (by decide) (fun u4_37 => ?_)
    exact v_sub (wNN_bitsOf_39 l G FU v1 v2 1 u4_37 M) rfl
  · refine v_aload_n (pc := 5) dX9_bitsOf_5 rfl ?_
    refine v_getR (pc := 6) (q := 0) zk9 lx_0 rfl rx_0_0 tw_431 dX9_bitsOf_6 ?_
    refine v_getI (pc := 9) (q := 0) zk3 lx_1 rfl tw_118 dX9_bitsOf_9 ?_
    refine v_aload_n (pc := 12) dX9_bitsOf_12 rfl ?_
    refine v_getR (pc := 13) (q := 1) zk9 lx_0 rfl rx_0_1 tw_432 dX9_bitsOf_13 ?_
    refine v_callV (pc := 16) (As := []) (cTree_fresh l G  M) zc_X8_fresh zk8 rfl lx_5 tw_511 (by decide) (Nat.le_of_ble_eq_true rfl) dX9_bitsOf_16 (fun r2 M1 => ?_)
    refine v_ifP (fun hgr2 => ?_)
    subst hgr2
    refine v_getI (pc := 19) (q := 1) zk8 lx_5 rfl tw_162 dX9_bitsOf_19 ?_
    refine v_isub (pc := 22) dX9_bitsOf_22 ?_
    exact v_iret (pc := 23) dX9_bitsOf_23
theorem cNN_bitsOf (l : Launch) (G : zG) (v1 : Int32) (v2 : Int32) (M : zM) : zC eI l G zLX zRX 6 yX9_bitsOf cX9_bitsOf 5 (some .int) [.ref 0, .int v1, .int v2] M (fNN_bitsOf v1 v2 M) := zC.of (by decide) (Nat.le_of_ble_eq_true rfl) (v_sub (wNN_bitsOf l G v1 v2 M) rfl)
theorem dX9_bits_0 : decode cX9_bits 0 = .ok (.iload_n 1, 1) := by decide +kernel
theorem dX9_bits_1 : decode cX9_bits 1 = .ok (.invokestatic 162, 3) := by decide +kernel
theorem dX9_bits_4 : decode cX9_bits 4 = .ok (.ifCond .ne 12, 3) := by decide +kernel
theorem dX9_bits_7 : decode cX9_bits 7 = .ok (.iload_n 1, 1) := by decide +kernel
theorem dX9_bits_8 : decode cX9_bits 8 = .ok (.iconst 3, 1) := by decide +kernel
theorem dX9_bits_9 : decode cX9_bits 9 = .ok (.if_icmp .eq 7, 3) := by decide +kernel
theorem dX9_bits_12 : decode cX9_bits 12 = .ok (.sipush (-1002), 3) := by decide +kernel
theorem dX9_bits_15 : decode cX9_bits 15 = .ok (.ireturn, 1) := by decide +kernel
theorem dX9_bits_16 : decode cX9_bits 16 = .ok (.iload_n 2, 1) := by decide +kernel
theorem dX9_bits_17 : decode cX9_bits 17 = .ok (.ifCond .lt 8, 3) := by decide +kernel
theorem dX9_bits_20 : decode cX9_bits 20 = .ok (.iload_n 2, 1) := by decide +kernel
theorem dX9_bits_21 : decode cX9_bits 21 = .ok (.iconst 2, 1) := by decide +kernel
theorem dX9_bits_22 : decode cX9_bits 22 = .ok (.if_icmp .le 7, 3) := by decide +kernel
theorem dX9_bits_25 : decode cX9_bits 25 = .ok (.sipush (-1002), 3) := by decide +kernel
theorem dX9_bits_28 : decode cX9_bits 28 = .ok (.ireturn, 1) := by decide +kernel
theorem dX9_bits_29 : decode cX9_bits 29 = .ok (.iconst (-1), 1) := by decide +kernel
theorem dX9_bits_30 : decode cX9_bits 30 = .ok (.istore_n 3, 1) := by decide +kernel
theorem dX9_bits_31 : decode cX9_bits 31 = .ok (.iconst 0, 1) := by decide +kernel
theorem dX9_bits_32 : decode cX9_bits 32 = .ok (.istore 4, 2) := by decide +kernel
theorem dX9_bits_34 : decode cX9_bits 34 = .ok (.iconst (-1), 1) := by decide +kernel
theorem dX9_bits_35 : decode cX9_bits 35 = .ok (.istore 5, 2) := by decide +kernel
theorem dX9_bits_37 : decode cX9_bits 37 = .ok (.iconst 0, 1) := by decide +kernel
theorem dX9_bits_38 : decode cX9_bits 38 = .ok (.istore 6, 2) := by decide +kernel
theorem dX9_bits_40 : decode cX9_bits 40 = .ok (.iload 6, 2) := by decide +kernel
theorem dX9_bits_42 : decode cX9_bits 42 = .ok (.aload_n 0, 1) := by decide +kernel
theorem dX9_bits_43 : decode cX9_bits 43 = .ok (.getfield 10, 3) := by decide +kernel
theorem dX9_bits_46 : decode cX9_bits 46 = .ok (.getfield 76, 3) := by decide +kernel
theorem dX9_bits_49 : decode cX9_bits 49 = .ok (.if_icmp .ge 38, 3) := by decide +kernel
theorem dX9_bits_52 : decode cX9_bits 52 = .ok (.aload_n 0, 1) := by decide +kernel
theorem dX9_bits_53 : decode cX9_bits 53 = .ok (.iload_n 1, 1) := by decide +kernel
theorem dX9_bits_54 : decode cX9_bits 54 = .ok (.iload 6, 2) := by decide +kernel
theorem dX9_bits_56 : decode cX9_bits 56 = .ok (.invokevirtual 174, 3) := by decide +kernel
theorem dX9_bits_59 : decode cX9_bits 59 = .ok (.istore 7, 2) := by decide +kernel
theorem dX9_bits_61 : decode cX9_bits 61 = .ok (.iload 4, 2) := by decide +kernel
theorem dX9_bits_63 : decode cX9_bits 63 = .ok (.iload 7, 2) := by decide +kernel
theorem dX9_bits_65 : decode cX9_bits 65 = .ok (.iadd, 1) := by decide +kernel
theorem dX9_bits_66 : decode cX9_bits 66 = .ok (.istore 4, 2) := by decide +kernel
theorem dX9_bits_68 : decode cX9_bits 68 = .ok (.iload 7, 2) := by decide +kernel
theorem dX9_bits_70 : decode cX9_bits 70 = .ok (.iload_n 3, 1) := by decide +kernel
theorem dX9_bits_71 : decode cX9_bits 71 = .ok (.if_icmp .le 10, 3) := by decide +kernel
theorem dX9_bits_74 : decode cX9_bits 74 = .ok (.iload 7, 2) := by decide +kernel
theorem dX9_bits_76 : decode cX9_bits 76 = .ok (.istore_n 3, 1) := by decide +kernel
theorem dX9_bits_77 : decode cX9_bits 77 = .ok (.iload 6, 2) := by decide +kernel
theorem dX9_bits_79 : decode cX9_bits 79 = .ok (.istore 5, 2) := by decide +kernel
theorem dX9_bits_81 : decode cX9_bits 81 = .ok (.iinc 6 1, 3) := by decide +kernel
theorem dX9_bits_84 : decode cX9_bits 84 = .ok (.goto (-44), 3) := by decide +kernel
theorem dX9_bits_87 : decode cX9_bits 87 = .ok (.iload_n 2, 1) := by decide +kernel
theorem dX9_bits_88 : decode cX9_bits 88 = .ok (.ifCond .ne 7, 3) := by decide +kernel
theorem dX9_bits_91 : decode cX9_bits 91 = .ok (.iload_n 3, 1) := by decide +kernel
theorem dX9_bits_92 : decode cX9_bits 92 = .ok (.goto 15, 3) := by decide +kernel
theorem dX9_bits_95 : decode cX9_bits 95 = .ok (.iload_n 2, 1) := by decide +kernel
theorem dX9_bits_96 : decode cX9_bits 96 = .ok (.iconst 1, 1) := by decide +kernel
theorem dX9_bits_97 : decode cX9_bits 97 = .ok (.if_icmp .ne 8, 3) := by decide +kernel
theorem dX9_bits_100 : decode cX9_bits 100 = .ok (.iload 4, 2) := by decide +kernel
theorem dX9_bits_102 : decode cX9_bits 102 = .ok (.goto 5, 3) := by decide +kernel
theorem dX9_bits_105 : decode cX9_bits 105 = .ok (.iload 5, 2) := by decide +kernel
theorem dX9_bits_107 : decode cX9_bits 107 = .ok (.ireturn, 1) := by decide +kernel
theorem wNN_bits_40 (l : Launch) (G : zG) : ∀ (fuel : Nat) (v1 : Int32) (v2 : Int32) (v3 : Int32) (v4 : Int32) (v5 : Int32) (v6 : Int32) (M : zM), zV eI l G zLX zRX 7 yX9_bits cX9_bits 8 (some .int) 40 [(0, .ref 0), (1, .int v1), (2, .int v2), (3, .int v3), (4, .int v4), (5, .int v5), (6, .int v6)] [] M (fNN_bits_40 fuel v1 v2 v3 v4 v5 v6 M) := by
  intro fuel
  induction fuel with
  | zero => intro v1 v2 v3 v4 v5 v6 M; exact v_none
  | succ fuel ih =>
    intro v1 v2 v3 v4 v5 v6 M
    rw [fNN_bits_40]
    refine v_iload (pc := 40) dX9_bits_40 rfl ?_
    refine v_aload_n (pc := 42) dX9_bits_42 rfl ?_
    refine v_getR (pc := 43) (q := 0) zk9 lx_0 rfl rx_0_0 tw_431 dX9_bits_43 ?_
    refine v_getI (pc := 46) (q := 0) zk3 lx_1 rfl tw_118 dX9_bits_46 ?_
    refine v_icmp_ge (pc := 49) 87 dX9_bits_49 (by decide) ?_ ?_
    · refine v_iload_n (pc := 87) dX9_bits_87 rfl ?_
      refine v_if_ne (pc := 88) 95 dX9_bits_88 (by decide) ?_ ?_
      · refine v_iload_n (pc := 95) dX9_bits_95 rfl ?_
        refine v_iconst (pc := 96) 1 dX9_bits_96 (by decide) ?_
        refine v_icmp_ne (pc := 97) 105 dX9_bits_97 (by decide) ?_ ?_
        · refine v_iload (pc := 105) dX9_bits_105 rfl ?_
          exact v_iret (pc := 107) dX9_bits_107
        · refine v_iload (pc := 100) dX9_bits_100 rfl ?_
          refine v_goto (pc := 102) 107 dX9_bits_102 (by decide) ?_
          exact v_iret (pc := 107) dX9_bits_107
      · refine v_iload_n (pc := 91) dX9_bits_91 rfl ?_
        refine v_goto (pc := 92) 107 dX9_bits_92 (by decide) ?_
        exact v_iret (pc := 107) dX9_bits_107
    · refine v_aload_n (pc := 52) dX9_bits_52 rfl ?_
      refine v_iload_n (pc := 53) dX9_bits_53 rfl ?_
      refine v_iload (pc := 54) dX9_bits_54 rfl ?_
      refine v_callV (pc := 56) (As := [.int v1, .int v6]) (cNN_bitsOf l G v1 v6 M) zc_X9_bitsOf zk9 rfl lx_0 tw_650 (by decide) (Nat.le_of_ble_eq_true rfl) dX9_bits_56 (fun r2 M1 => ?_)
      refine v_istore (pc := 59) dX9_bits_59 (by decide) ?_
      refine v_iload (pc := 61) dX9_bits_61 rfl ?_
      refine v_iload (pc := 63) dX9_bits_63 rfl ?_
      refine v_iadd (pc := 65) dX9_bits_65 ?_
      refine v_istoreL (pc := 66) dX9_bits_66 (by decide) (fun u4_66 => ?_)
      refine v_iload (pc := 68) dX9_bits_68 rfl ?_
      refine v_iload_n (pc := 70) dX9_bits_70 rfl ?_
      refine v_icmp_le (pc := 71) 81 dX9_bits_71 (by decide) ?_ ?_
      · refine v_iinc (pc := 81) 1 dX9_bits_81 rfl (by decide) (by decide) ?_
        refine v_goto (pc := 84) 40 dX9_bits_84 (by decide) ?_
        exact v_sub (ih v1 v2 v3 u4_66 v5 (v6 + 1) M1) rfl
      · refine v_iload (pc := 74) dX9_bits_74 rfl ?_
        refine v_istore_n (pc := 76) dX9_bits_76 (by decide) ?_
        refine v_iload (pc := 77) dX9_bits_77 rfl ?_
        refine v_istore (pc := 79) dX9_bits_79 (by decide) ?_
        refine v_iinc (pc := 81) 1 dX9_bits_81 rfl (by decide) (by decide) ?_
        refine v_goto (pc := 84) 40 dX9_bits_84 (by decide) ?_
        exact v_sub (ih v1 v2 r2 u4_66 v6 (v6 + 1) M1) rfl
theorem wNN_bits_16 (l : Launch) (G : zG) (v1 : Int32) (v2 : Int32) (M : zM) : zV eI l G zLX zRX 7 yX9_bits cX9_bits 8 (some .int) 16 [(0, .ref 0), (1, .int v1), (2, .int v2)] [] M (fNN_bits_16 v1 v2 M) := by
  rw [fNN_bits_16]
  refine v_iload_n (pc := 16) dX9_bits_16 rfl ?_
  refine v_if_lt (pc := 17) 25 dX9_bits_17 (by decide) ?_ ?_
  · refine v_sipush (pc := 25) (-1002) dX9_bits_25 (by decide) ?_
    exact v_iret (pc := 28) dX9_bits_28
  · refine v_iload_n (pc := 20) dX9_bits_20 rfl ?_
    refine v_iconst (pc := 21) 2 dX9_bits_21 (by decide) ?_
    refine v_icmp_le (pc := 22) 29 dX9_bits_22 (by decide) ?_ ?_
    · refine v_iconst (pc := 29) (-1) dX9_bits_29 (by decide) ?_
      refine v_istore_n (pc := 30) dX9_bits_30 (by decide) ?_
      refine v_iconst (pc := 31) 0 dX9_bits_31 (by decide) ?_
      refine v_istore (pc := 32) dX9_bits_32 (by decide) ?_
      refine v_iconst (pc := 34) (-1) dX9_bits_34 (by decide) ?_
      refine v_istore (pc := 35) dX9_bits_35 (by decide) ?_
      refine v_iconst (pc := 37) 0 dX9_bits_37 (by decide) ?_
      refine v_istore (pc := 38) dX9_bits_38 (by decide) ?_
      exact v_sub (wNN_bits_40 l G FU v1 v2 (-1) 0 (-1) 0 M) rfl
    · refine v_sipush (pc := 25) (-1002) dX9_bits_25 (by decide) ?_
      exact v_iret (pc := 28) dX9_bits_28
theorem wNN_bits (l : Launch) (G : zG) (v1 : Int32) (v2 : Int32) (M : zM) : zV eI l G zLX zRX 7 yX9_bits cX9_bits 8 (some .int) 0 [(0, .ref 0), (1, .int v1), (2, .int v2)] [] M (fNN_bits v1 v2 M) := by
  rw [fNN_bits]
  refine v_iload_n (pc := 0) dX9_bits_0 rfl ?_
  refine v_callS (pc := 1) (As := [.int v1]) (cNN_isNamedKind l G v1 M) zc_X9_isNamedKind tw_641 (by decide) (Nat.le_of_ble_eq_true rfl) dX9_bits_1 (fun r2 M1 => ?_)
  refine v_if_ne (pc := 4) 16 dX9_bits_4 (by decide) ?_ ?_
  · exact v_sub (wNN_bits_16 l G v1 v2 M1) rfl
  · refine v_iload_n (pc := 7) dX9_bits_7 rfl ?_
    refine v_iconst (pc := 8) 3 dX9_bits_8 (by decide) ?_
    refine v_icmp_eq (pc := 9) 16 dX9_bits_9 (by decide) ?_ ?_
    · exact v_sub (wNN_bits_16 l G v1 v2 M1) rfl
    · refine v_sipush (pc := 12) (-1002) dX9_bits_12 (by decide) ?_
      exact v_iret (pc := 15) dX9_bits_15
theorem cNN_bits (l : Launch) (G : zG) (v1 : Int32) (v2 : Int32) (M : zM) : zC eI l G zLX zRX 7 yX9_bits cX9_bits 8 (some .int) [.ref 0, .int v1, .int v2] M (fNN_bits v1 v2 M) := zC.of (by decide) (Nat.le_of_ble_eq_true rfl) (v_sub (wNN_bits l G v1 v2 M) rfl)
theorem dX9_ask_0 : decode cX9_ask 0 = .ok (.aload_n 0, 1) := by decide +kernel
theorem dX9_ask_1 : decode cX9_ask 1 = .ok (.getfield 10, 3) := by decide +kernel
theorem dX9_ask_4 : decode cX9_ask 4 = .ok (.iload_n 2, 1) := by decide +kernel
theorem dX9_ask_5 : decode cX9_ask 5 = .ok (.iload_n 3, 1) := by decide +kernel
theorem dX9_ask_6 : decode cX9_ask 6 = .ok (.invokevirtual 84, 3) := by decide +kernel
theorem dX9_ask_9 : decode cX9_ask 9 = .ok (.ifCond .ne 7, 3) := by decide +kernel
theorem dX9_ask_12 : decode cX9_ask 12 = .ok (.sipush (-1001), 3) := by decide +kernel
theorem dX9_ask_15 : decode cX9_ask 15 = .ok (.ireturn, 1) := by decide +kernel
theorem dX9_ask_16 : decode cX9_ask 16 = .ok (.iload_n 1, 1) := by decide +kernel
theorem dX9_ask_17 : decode cX9_ask 17 = .ok (.invokestatic 162, 3) := by decide +kernel
theorem dX9_ask_20 : decode cX9_ask 20 = .ok (.ifCond .ne 7, 3) := by decide +kernel
theorem dX9_ask_23 : decode cX9_ask 23 = .ok (.sipush (-1002), 3) := by decide +kernel
theorem dX9_ask_26 : decode cX9_ask 26 = .ok (.ireturn, 1) := by decide +kernel
theorem dX9_ask_27 : decode cX9_ask 27 = .ok (.aload_n 0, 1) := by decide +kernel
theorem dX9_ask_28 : decode cX9_ask 28 = .ok (.getfield 30, 3) := by decide +kernel
theorem dX9_ask_31 : decode cX9_ask 31 = .ok (.iload_n 1, 1) := by decide +kernel
theorem dX9_ask_32 : decode cX9_ask 32 = .ok (.invokevirtual 165, 3) := by decide +kernel
theorem dX9_ask_35 : decode cX9_ask 35 = .ok (.iload_n 2, 1) := by decide +kernel
theorem dX9_ask_36 : decode cX9_ask 36 = .ok (.iload_n 3, 1) := by decide +kernel
theorem dX9_ask_37 : decode cX9_ask 37 = .ok (.invokevirtual 177, 3) := by decide +kernel
theorem dX9_ask_40 : decode cX9_ask 40 = .ok (.ireturn, 1) := by decide +kernel
theorem wNN_ask (l : Launch) (G : zG) (v1 : Int32) (v2 : Int32) (v3 : Int32) (M : zM) : zV eI l G zLX zRX 6 yX9_ask cX9_ask 4 (some .int) 0 [(0, .ref 0), (1, .int v1), (2, .int v2), (3, .int v3)] [] M (fNN_ask v1 v2 v3 M) := by
  rw [fNN_ask]
  refine v_aload_n (pc := 0) dX9_ask_0 rfl ?_
  refine v_getR (pc := 1) (q := 0) zk9 lx_0 rfl rx_0_0 tw_431 dX9_ask_1 ?_
  refine v_iload_n (pc := 4) dX9_ask_4 rfl ?_
  refine v_iload_n (pc := 5) dX9_ask_5 rfl ?_
  refine v_callV (pc := 6) (As := [.int v2, .int v3]) (cNet_hasPosts l G v2 v3 M) zc_X3_hasPosts zk3 rfl lx_1 tw_479 (by decide) (Nat.le_of_ble_eq_true rfl) dX9_ask_6 (fun r2 M1 => ?_)
  refine v_if_ne (pc := 9) 16 dX9_ask_9 (by decide) ?_ ?_
  · refine v_iload_n (pc := 16) dX9_ask_16 rfl ?_
    refine v_callS (pc := 17) (As := [.int v1]) (cNN_isNamedKind l G v1 M1) zc_X9_isNamedKind tw_641 (by decide) (Nat.le_of_ble_eq_true rfl) dX9_ask_17 (fun r4 M3 => ?_)
    refine v_if_ne (pc := 20) 27 dX9_ask_20 (by decide) ?_ ?_
    · refine v_aload_n (pc := 27) dX9_ask_27 rfl ?_
      refine v_getR (pc := 28) (q := 2) zk9 lx_0 rfl rx_0_2 tw_433 dX9_ask_28 ?_
      refine v_iload_n (pc := 31) dX9_ask_31 rfl ?_
      refine v_callV (pc := 32) (As := [.int v1]) (cLabels_now l G v1 M3) zc_X1_now zk1 rfl lx_14 tw_644 (by decide) (Nat.le_of_ble_eq_true rfl) dX9_ask_32 (fun r6 M5 => ?_)
      refine v_ifP (fun hgr6 => ?_)
      have hr6 := zN_of hgr6
      refine v_iload_n (pc := 35) dX9_ask_35 rfl ?_
      refine v_iload_n (pc := 36) dX9_ask_36 rfl ?_
      refine v_callV (pc := 37) (As := [.int v2, .int v3]) (cNames_reply l G r6 hr6 v2 v3 M5) zc_X2_reply zk2 rfl hr6.1 tw_658 (by decide) (Nat.le_of_ble_eq_true rfl) dX9_ask_37 (fun r8 M7 => ?_)
      exact v_iret (pc := 40) dX9_ask_40
    · refine v_sipush (pc := 23) (-1002) dX9_ask_23 (by decide) ?_
      exact v_iret (pc := 26) dX9_ask_26
  · refine v_sipush (pc := 12) (-1001) dX9_ask_12 (by decide) ?_
    exact v_iret (pc := 15) dX9_ask_15
theorem cNN_ask (l : Launch) (G : zG) (v1 : Int32) (v2 : Int32) (v3 : Int32) (M : zM) : zC eI l G zLX zRX 6 yX9_ask cX9_ask 4 (some .int) [.ref 0, .int v1, .int v2, .int v3] M (fNN_ask v1 v2 v3 M) := zC.of (by decide) (Nat.le_of_ble_eq_true rfl) (v_sub (wNN_ask l G v1 v2 v3 M) rfl)
theorem dX9_parted_0 : decode cX9_parted 0 = .ok (.aload_n 0, 1) := by decide +kernel
theorem dX9_parted_1 : decode cX9_parted 1 = .ok (.getfield 10, 3) := by decide +kernel
theorem dX9_parted_4 : decode cX9_parted 4 = .ok (.iload_n 1, 1) := by decide +kernel
theorem dX9_parted_5 : decode cX9_parted 5 = .ok (.iload_n 2, 1) := by decide +kernel
theorem dX9_parted_6 : decode cX9_parted 6 = .ok (.invokevirtual 84, 3) := by decide +kernel
theorem dX9_parted_9 : decode cX9_parted 9 = .ok (.ifCond .eq 14, 3) := by decide +kernel
theorem dX9_parted_12 : decode cX9_parted 12 = .ok (.aload_n 0, 1) := by decide +kernel
theorem dX9_parted_13 : decode cX9_parted 13 = .ok (.getfield 10, 3) := by decide +kernel
theorem dX9_parted_16 : decode cX9_parted 16 = .ok (.iload_n 3, 1) := by decide +kernel
theorem dX9_parted_17 : decode cX9_parted 17 = .ok (.invokevirtual 180, 3) := by decide +kernel
theorem dX9_parted_20 : decode cX9_parted 20 = .ok (.ifCond .ne 7, 3) := by decide +kernel
theorem dX9_parted_23 : decode cX9_parted 23 = .ok (.sipush (-1001), 3) := by decide +kernel
theorem dX9_parted_26 : decode cX9_parted 26 = .ok (.ireturn, 1) := by decide +kernel
theorem dX9_parted_27 : decode cX9_parted 27 = .ok (.iload_n 3, 1) := by decide +kernel
theorem dX9_parted_28 : decode cX9_parted 28 = .ok (.invokestatic 183, 3) := by decide +kernel
theorem dX9_parted_31 : decode cX9_parted 31 = .ok (.bipush 6, 2) := by decide +kernel
theorem dX9_parted_33 : decode cX9_parted 33 = .ok (.if_icmp .le 7, 3) := by decide +kernel
theorem dX9_parted_36 : decode cX9_parted 36 = .ok (.sipush (-1002), 3) := by decide +kernel
theorem dX9_parted_39 : decode cX9_parted 39 = .ok (.ireturn, 1) := by decide +kernel
theorem dX9_parted_40 : decode cX9_parted 40 = .ok (.aload_n 0, 1) := by decide +kernel
theorem dX9_parted_41 : decode cX9_parted 41 = .ok (.getfield 55, 3) := by decide +kernel
theorem dX9_parted_44 : decode cX9_parted 44 = .ok (.iload_n 1, 1) := by decide +kernel
theorem dX9_parted_45 : decode cX9_parted 45 = .ok (.iload_n 2, 1) := by decide +kernel
theorem dX9_parted_46 : decode cX9_parted 46 = .ok (.iload_n 3, 1) := by decide +kernel
theorem dX9_parted_47 : decode cX9_parted 47 = .ok (.invokevirtual 188, 3) := by decide +kernel
theorem dX9_parted_50 : decode cX9_parted 50 = .ok (.ifCond .eq 7, 3) := by decide +kernel
theorem dX9_parted_53 : decode cX9_parted 53 = .ok (.iconst 1, 1) := by decide +kernel
theorem dX9_parted_54 : decode cX9_parted 54 = .ok (.goto 4, 3) := by decide +kernel
theorem dX9_parted_57 : decode cX9_parted 57 = .ok (.iconst 0, 1) := by decide +kernel
theorem dX9_parted_58 : decode cX9_parted 58 = .ok (.ireturn, 1) := by decide +kernel
theorem wNN_parted (l : Launch) (G : zG) (v1 : Int32) (v2 : Int32) (v3 : Int32) (M : zM) : zV eI l G zLX zRX 5 yX9_parted cX9_parted 4 (some .int) 0 [(0, .ref 0), (1, .int v1), (2, .int v2), (3, .int v3)] [] M (fNN_parted v1 v2 v3 M) := by
  rw [fNN_parted]
  refine v_aload_n (pc := 0) dX9_parted_0 rfl ?_
  refine v_getR (pc := 1) (q := 0) zk9 lx_0 rfl rx_0_0 tw_431 dX9_parted_1 ?_
  refine v_iload_n (pc := 4) dX9_parted_4 rfl ?_
  refine v_iload_n (pc := 5) dX9_parted_5 rfl ?_
  refine v_callV (pc := 6) (As := [.int v1, .int v2]) (cNet_hasPosts l G v1 v2 M) zc_X3_hasPosts zk3 rfl lx_1 tw_479 (by decide) (Nat.le_of_ble_eq_true rfl) dX9_parted_6 (fun r2 M1 => ?_)
  refine v_if_eq (pc := 9) 23 dX9_parted_9 (by decide) ?_ ?_
  · refine v_sipush (pc := 23) (-1001) dX9_parted_23 (by decide) ?_
    exact v_iret (pc := 26) dX9_parted_26
  · refine v_aload_n (pc := 12) dX9_parted_12 rfl ?_
    refine v_getR (pc := 13) (q := 0) zk9 lx_0 rfl rx_0_0 tw_431 dX9_parted_13 ?_
    refine v_iload_n (pc := 16) dX9_parted_16 rfl ?_
    refine v_callV (pc := 17) (As := [.int v3]) (cNet_hasLines l G v3 M1) zc_X3_hasLines zk3 rfl lx_1 tw_675 (by decide) (Nat.le_of_ble_eq_true rfl) dX9_parted_17 (fun r4 M3 => ?_)
    refine v_if_ne (pc := 20) 27 dX9_parted_20 (by decide) ?_ ?_
    · refine v_iload_n (pc := 27) dX9_parted_27 rfl ?_
      refine v_callS (pc := 28) (As := [.int v3]) (cJ6_bitCount l G v3 M3) zc_J6_bitCount_0f7a4 tw_679 (by decide) (Nat.le_of_ble_eq_true rfl) dX9_parted_28 (fun r6 M5 => ?_)
      refine v_bipush (pc := 31) 6 dX9_parted_31 (by decide) ?_
      refine v_icmp_le (pc := 33) 40 dX9_parted_33 (by decide) ?_ ?_
      · refine v_aload_n (pc := 40) dX9_parted_40 rfl ?_
        refine v_getR (pc := 41) (q := 5) zk9 lx_0 rfl rx_0_5 tw_436 dX9_parted_41 ?_
        refine v_iload_n (pc := 44) dX9_parted_44 rfl ?_
        refine v_iload_n (pc := 45) dX9_parted_45 rfl ?_
        refine v_iload_n (pc := 46) dX9_parted_46 rfl ?_
        refine v_callV (pc := 47) (As := [.int v1, .int v2, .int v3]) (cCuts_parts l G v1 v2 v3 M5) zc_X0_parts zk0 rfl lx_49 tw_680 (by decide) (Nat.le_of_ble_eq_true rfl) dX9_parted_47 (fun r8 M7 => ?_)
        refine v_if_eq (pc := 50) 57 dX9_parted_50 (by decide) ?_ ?_
        · refine v_iconst (pc := 57) 0 dX9_parted_57 (by decide) ?_
          exact v_iret (pc := 58) dX9_parted_58
        · refine v_iconst (pc := 53) 1 dX9_parted_53 (by decide) ?_
          refine v_goto (pc := 54) 58 dX9_parted_54 (by decide) ?_
          exact v_iret (pc := 58) dX9_parted_58
      · refine v_sipush (pc := 36) (-1002) dX9_parted_36 (by decide) ?_
        exact v_iret (pc := 39) dX9_parted_39
    · refine v_sipush (pc := 23) (-1001) dX9_parted_23 (by decide) ?_
      exact v_iret (pc := 26) dX9_parted_26
theorem cNN_parted (l : Launch) (G : zG) (v1 : Int32) (v2 : Int32) (v3 : Int32) (M : zM) : zC eI l G zLX zRX 5 yX9_parted cX9_parted 4 (some .int) [.ref 0, .int v1, .int v2, .int v3] M (fNN_parted v1 v2 v3 M) := zC.of (by decide) (Nat.le_of_ble_eq_true rfl) (v_sub (wNN_parted l G v1 v2 v3 M) rfl)
theorem dX9_learn_0 : decode cX9_learn 0 = .ok (.iload_n 1, 1) := by decide +kernel
theorem dX9_learn_1 : decode cX9_learn 1 = .ok (.invokestatic 162, 3) := by decide +kernel
theorem dX9_learn_4 : decode cX9_learn 4 = .ok (.ifCond .ne 7, 3) := by decide +kernel
theorem dX9_learn_7 : decode cX9_learn 7 = .ok (.sipush (-1002), 3) := by decide +kernel
theorem dX9_learn_10 : decode cX9_learn 10 = .ok (.ireturn, 1) := by decide +kernel
theorem dX9_learn_11 : decode cX9_learn 11 = .ok (.aload_n 0, 1) := by decide +kernel
theorem dX9_learn_12 : decode cX9_learn 12 = .ok (.getfield 30, 3) := by decide +kernel
theorem dX9_learn_15 : decode cX9_learn 15 = .ok (.iload_n 1, 1) := by decide +kernel
theorem dX9_learn_16 : decode cX9_learn 16 = .ok (.invokevirtual 165, 3) := by decide +kernel
theorem dX9_learn_19 : decode cX9_learn 19 = .ok (.astore_n 2, 1) := by decide +kernel
theorem dX9_learn_20 : decode cX9_learn 20 = .ok (.aload_n 0, 1) := by decide +kernel
theorem dX9_learn_21 : decode cX9_learn 21 = .ok (.getfield 36, 3) := by decide +kernel
theorem dX9_learn_24 : decode cX9_learn 24 = .ok (.iload_n 1, 1) := by decide +kernel
theorem dX9_learn_25 : decode cX9_learn 25 = .ok (.aaload, 1) := by decide +kernel
theorem dX9_learn_26 : decode cX9_learn 26 = .ok (.aload_n 2, 1) := by decide +kernel
theorem dX9_learn_27 : decode cX9_learn 27 = .ok (.invokevirtual 192, 3) := by decide +kernel
theorem dX9_learn_30 : decode cX9_learn 30 = .ok (.invokestatic 183, 3) := by decide +kernel
theorem dX9_learn_33 : decode cX9_learn 33 = .ok (.istore_n 3, 1) := by decide +kernel
theorem dX9_learn_34 : decode cX9_learn 34 = .ok (.aload_n 0, 1) := by decide +kernel
theorem dX9_learn_35 : decode cX9_learn 35 = .ok (.getfield 36, 3) := by decide +kernel
theorem dX9_learn_38 : decode cX9_learn 38 = .ok (.iload_n 1, 1) := by decide +kernel
theorem dX9_learn_39 : decode cX9_learn 39 = .ok (.aaload, 1) := by decide +kernel
theorem dX9_learn_40 : decode cX9_learn 40 = .ok (.aload_n 2, 1) := by decide +kernel
theorem dX9_learn_41 : decode cX9_learn 41 = .ok (.invokevirtual 196, 3) := by decide +kernel
theorem dX9_learn_44 : decode cX9_learn 44 = .ok (.iload_n 3, 1) := by decide +kernel
theorem dX9_learn_45 : decode cX9_learn 45 = .ok (.ireturn, 1) := by decide +kernel
theorem wNN_learn (l : Launch) (G : zG) (v1 : Int32) (M : zM) : zV eI l G zLX zRX 6 yX9_learn cX9_learn 4 (some .int) 0 [(0, .ref 0), (1, .int v1)] [] M (fNN_learn v1 M) := by
  rw [fNN_learn]
  refine v_iload_n (pc := 0) dX9_learn_0 rfl ?_
  refine v_callS (pc := 1) (As := [.int v1]) (cNN_isNamedKind l G v1 M) zc_X9_isNamedKind tw_641 (by decide) (Nat.le_of_ble_eq_true rfl) dX9_learn_1 (fun r2 M1 => ?_)
  refine v_if_ne (pc := 4) 11 dX9_learn_4 (by decide) ?_ ?_
  · refine v_aload_n (pc := 11) dX9_learn_11 rfl ?_
    refine v_getR (pc := 12) (q := 2) zk9 lx_0 rfl rx_0_2 tw_433 dX9_learn_12 ?_
    refine v_iload_n (pc := 15) dX9_learn_15 rfl ?_
    refine v_callV (pc := 16) (As := [.int v1]) (cLabels_now l G v1 M1) zc_X1_now zk1 rfl lx_14 tw_644 (by decide) (Nat.le_of_ble_eq_true rfl) dX9_learn_16 (fun r4 M3 => ?_)
    refine v_ifP (fun hgr4 => ?_)
    have hr4 := zN_of hgr4
    refine v_astore_n (pc := 19) dX9_learn_19 (by decide) ?_
    refine v_aload_n (pc := 20) dX9_learn_20 rfl ?_
    refine v_getR (pc := 21) (q := 3) zk9 lx_0 rfl rx_0_3 tw_434 dX9_learn_21 ?_
    refine v_iload_n (pc := 24) dX9_learn_24 rfl ?_
    refine v_paald (pc := 25) lx_32 dX9_learn_25 (fun b5 hib5 hbb5 => ?_)
    have hb5 := zPg_rows hib5 hbb5
    refine v_aload_n (pc := 26) dX9_learn_26 rfl ?_
    refine v_callV (pc := 27) (As := [.ref r4]) (cPage_unlike l G b5 hb5 r4 hr4 M3) zc_X4_unlike zk4 rfl hb5.1 tw_694 (by decide) (Nat.le_of_ble_eq_true rfl) dX9_learn_27 (fun r7 M6 => ?_)
    refine v_callS (pc := 30) (As := [.int r7]) (cJ6_bitCount l G r7 M6) zc_J6_bitCount_0f7a4 tw_679 (by decide) (Nat.le_of_ble_eq_true rfl) dX9_learn_30 (fun r9 M8 => ?_)
    refine v_istore_n (pc := 33) dX9_learn_33 (by decide) ?_
    refine v_aload_n (pc := 34) dX9_learn_34 rfl ?_
    refine v_getR (pc := 35) (q := 3) zk9 lx_0 rfl rx_0_3 tw_434 dX9_learn_35 ?_
    refine v_iload_n (pc := 38) dX9_learn_38 rfl ?_
    refine v_paald (pc := 39) lx_32 dX9_learn_39 (fun b10 hib10 hbb10 => ?_)
    have hb10 := zPg_rows hib10 hbb10
    refine v_aload_n (pc := 40) dX9_learn_40 rfl ?_
    refine v_callV (pc := 41) (As := [.ref r4]) (cPage_take l G b10 hb10 r4 hr4 M8) zc_X4_take zk4 rfl hb10.1 tw_703 (by decide) (Nat.le_of_ble_eq_true rfl) dX9_learn_41 (fun _ M11 => ?_)
    skip
    refine v_iload_n (pc := 44) dX9_learn_44 rfl ?_
    exact v_iret (pc := 45) dX9_learn_45
  · refine v_sipush (pc := 7) (-1002) dX9_learn_7 (by decide) ?_
    exact v_iret (pc := 10) dX9_learn_10
theorem cNN_learn (l : Launch) (G : zG) (v1 : Int32) (M : zM) : zC eI l G zLX zRX 6 yX9_learn cX9_learn 4 (some .int) [.ref 0, .int v1] M (fNN_learn v1 M) := zC.of (by decide) (Nat.le_of_ble_eq_true rfl) (v_sub (wNN_learn l G v1 M) rfl)
theorem dX9_forge_0 : decode cX9_forge 0 = .ok (.iload_n 1, 1) := by decide +kernel
theorem dX9_forge_1 : decode cX9_forge 1 = .ok (.invokestatic 162, 3) := by decide +kernel
theorem dX9_forge_4 : decode cX9_forge 4 = .ok (.ifCond .ne 7, 3) := by decide +kernel
theorem dX9_forge_7 : decode cX9_forge 7 = .ok (.sipush (-1002), 3) := by decide +kernel
theorem dX9_forge_10 : decode cX9_forge 10 = .ok (.ireturn, 1) := by decide +kernel
theorem dX9_forge_11 : decode cX9_forge 11 = .ok (.aload_n 0, 1) := by decide +kernel
theorem dX9_forge_12 : decode cX9_forge 12 = .ok (.getfield 36, 3) := by decide +kernel
theorem dX9_forge_15 : decode cX9_forge 15 = .ok (.iload_n 1, 1) := by decide +kernel
theorem dX9_forge_16 : decode cX9_forge 16 = .ok (.aaload, 1) := by decide +kernel
theorem dX9_forge_17 : decode cX9_forge 17 = .ok (.astore 5, 2) := by decide +kernel
theorem dX9_forge_19 : decode cX9_forge 19 = .ok (.aload 5, 2) := by decide +kernel
theorem dX9_forge_21 : decode cX9_forge 21 = .ok (.iload_n 2, 1) := by decide +kernel
theorem dX9_forge_22 : decode cX9_forge 22 = .ok (.invokevirtual 200, 3) := by decide +kernel
theorem dX9_forge_25 : decode cX9_forge 25 = .ok (.ifCond .ne 7, 3) := by decide +kernel
theorem dX9_forge_28 : decode cX9_forge 28 = .ok (.sipush (-1001), 3) := by decide +kernel
theorem dX9_forge_31 : decode cX9_forge 31 = .ok (.ireturn, 1) := by decide +kernel
theorem dX9_forge_32 : decode cX9_forge 32 = .ok (.aload 5, 2) := by decide +kernel
theorem dX9_forge_34 : decode cX9_forge 34 = .ok (.getfield 203, 3) := by decide +kernel
theorem dX9_forge_37 : decode cX9_forge 37 = .ok (.iload_n 2, 1) := by decide +kernel
theorem dX9_forge_38 : decode cX9_forge 38 = .ok (.iload_n 3, 1) := by decide +kernel
theorem dX9_forge_39 : decode cX9_forge 39 = .ok (.invokevirtual 207, 3) := by decide +kernel
theorem dX9_forge_42 : decode cX9_forge 42 = .ok (.ifCond .eq 15, 3) := by decide +kernel
theorem dX9_forge_45 : decode cX9_forge 45 = .ok (.iload 4, 2) := by decide +kernel
theorem dX9_forge_47 : decode cX9_forge 47 = .ok (.ifCond .lt 10, 3) := by decide +kernel
theorem dX9_forge_50 : decode cX9_forge 50 = .ok (.iload 4, 2) := by decide +kernel
theorem dX9_forge_52 : decode cX9_forge 52 = .ok (.bipush 99, 2) := by decide +kernel
theorem dX9_forge_54 : decode cX9_forge 54 = .ok (.if_icmp .le 7, 3) := by decide +kernel
theorem dX9_forge_57 : decode cX9_forge 57 = .ok (.sipush (-1002), 3) := by decide +kernel
theorem dX9_forge_60 : decode cX9_forge 60 = .ok (.ireturn, 1) := by decide +kernel
theorem dX9_forge_61 : decode cX9_forge 61 = .ok (.aload 5, 2) := by decide +kernel
theorem dX9_forge_63 : decode cX9_forge 63 = .ok (.getfield 203, 3) := by decide +kernel
theorem dX9_forge_66 : decode cX9_forge 66 = .ok (.iload_n 2, 1) := by decide +kernel
theorem dX9_forge_67 : decode cX9_forge 67 = .ok (.iload_n 3, 1) := by decide +kernel
theorem dX9_forge_68 : decode cX9_forge 68 = .ok (.invokevirtual 169, 3) := by decide +kernel
theorem dX9_forge_71 : decode cX9_forge 71 = .ok (.istore 6, 2) := by decide +kernel
theorem dX9_forge_73 : decode cX9_forge 73 = .ok (.aload 5, 2) := by decide +kernel
theorem dX9_forge_75 : decode cX9_forge 75 = .ok (.getfield 203, 3) := by decide +kernel
theorem dX9_forge_78 : decode cX9_forge 78 = .ok (.iload_n 2, 1) := by decide +kernel
theorem dX9_forge_79 : decode cX9_forge 79 = .ok (.iload_n 3, 1) := by decide +kernel
theorem dX9_forge_80 : decode cX9_forge 80 = .ok (.iload 4, 2) := by decide +kernel
theorem dX9_forge_82 : decode cX9_forge 82 = .ok (.invokevirtual 209, 3) := by decide +kernel
theorem dX9_forge_85 : decode cX9_forge 85 = .ok (.iload 6, 2) := by decide +kernel
theorem dX9_forge_87 : decode cX9_forge 87 = .ok (.ireturn, 1) := by decide +kernel
theorem wNN_forge (l : Launch) (G : zG) (v1 : Int32) (v2 : Int32) (v3 : Int32) (v4 : Int32) (M : zM) : zV eI l G zLX zRX 3 yX9_forge cX9_forge 7 (some .int) 0 [(0, .ref 0), (1, .int v1), (2, .int v2), (3, .int v3), (4, .int v4)] [] M (fNN_forge v1 v2 v3 v4 M) := by
  rw [fNN_forge]
  refine v_iload_n (pc := 0) dX9_forge_0 rfl ?_
  refine v_callS (pc := 1) (As := [.int v1]) (cNN_isNamedKind l G v1 M) zc_X9_isNamedKind tw_641 (by decide) (Nat.le_of_ble_eq_true rfl) dX9_forge_1 (fun r2 M1 => ?_)
  refine v_if_ne (pc := 4) 11 dX9_forge_4 (by decide) ?_ ?_
  · refine v_aload_n (pc := 11) dX9_forge_11 rfl ?_
    refine v_getR (pc := 12) (q := 3) zk9 lx_0 rfl rx_0_3 tw_434 dX9_forge_12 ?_
    refine v_iload_n (pc := 15) dX9_forge_15 rfl ?_
    refine v_paald (pc := 16) lx_32 dX9_forge_16 (fun b3 hib3 hbb3 => ?_)
    have hb3 := zPg_rows hib3 hbb3
    refine v_astore (pc := 17) dX9_forge_17 (by decide) ?_
    refine v_aload (pc := 19) dX9_forge_19 rfl ?_
    refine v_iload_n (pc := 21) dX9_forge_21 rfl ?_
    refine v_callV (pc := 22) (As := [.int v2]) (cPage_has l G b3 hb3 v2 M1) zc_X4_has zk4 rfl hb3.1 tw_722 (by decide) (Nat.le_of_ble_eq_true rfl) dX9_forge_22 (fun r5 M4 => ?_)
    refine v_if_ne (pc := 25) 32 dX9_forge_25 (by decide) ?_ ?_
    · refine v_aload (pc := 32) dX9_forge_32 rfl ?_
      refine v_getR (pc := 34) (q := 1) zk4 hb3.1 rfl hb3.2.2.1 tw_292 dX9_forge_34 ?_
      refine v_iload_n (pc := 37) dX9_forge_37 rfl ?_
      refine v_iload_n (pc := 38) dX9_forge_38 rfl ?_
      refine v_callV (pc := 39) (As := [.int v2, .int v3]) (cNames_has l G (b3 + 2) hb3.2.2.2.2 v2 v3 M4) zc_X2_has zk2 rfl hb3.2.2.2.2.1 tw_726 (by decide) (Nat.le_of_ble_eq_true rfl) dX9_forge_39 (fun r7 M6 => ?_)
      refine v_if_eq (pc := 42) 57 dX9_forge_42 (by decide) ?_ ?_
      · refine v_sipush (pc := 57) (-1002) dX9_forge_57 (by decide) ?_
        exact v_iret (pc := 60) dX9_forge_60
      · refine v_iload (pc := 45) dX9_forge_45 rfl ?_
        refine v_if_lt (pc := 47) 57 dX9_forge_47 (by decide) ?_ ?_
        · refine v_sipush (pc := 57) (-1002) dX9_forge_57 (by decide) ?_
          exact v_iret (pc := 60) dX9_forge_60
        · refine v_iload (pc := 50) dX9_forge_50 rfl ?_
          refine v_bipush (pc := 52) 99 dX9_forge_52 (by decide) ?_
          refine v_icmp_le (pc := 54) 61 dX9_forge_54 (by decide) ?_ ?_
          · refine v_aload (pc := 61) dX9_forge_61 rfl ?_
            refine v_getR (pc := 63) (q := 1) zk4 hb3.1 rfl hb3.2.2.1 tw_292 dX9_forge_63 ?_
            refine v_iload_n (pc := 66) dX9_forge_66 rfl ?_
            refine v_iload_n (pc := 67) dX9_forge_67 rfl ?_
            refine v_callV (pc := 68) (As := [.int v2, .int v3]) (cNames_number l G (b3 + 2) hb3.2.2.2.2 v2 v3 M6) zc_X2_number zk2 rfl hb3.2.2.2.2.1 tw_645 (by decide) (Nat.le_of_ble_eq_true rfl) dX9_forge_68 (fun r9 M8 => ?_)
            refine v_istore (pc := 71) dX9_forge_71 (by decide) ?_
            refine v_aload (pc := 73) dX9_forge_73 rfl ?_
            refine v_getR (pc := 75) (q := 1) zk4 hb3.1 rfl hb3.2.2.1 tw_292 dX9_forge_75 ?_
            refine v_iload_n (pc := 78) dX9_forge_78 rfl ?_
            refine v_iload_n (pc := 79) dX9_forge_79 rfl ?_
            refine v_iload (pc := 80) dX9_forge_80 rfl ?_
            refine v_callV (pc := 82) (As := [.int v2, .int v3, .int v4]) (cNames_put l G (b3 + 2) hb3.2.2.2.2 v2 v3 v4 M8) zc_X2_put zk2 rfl hb3.2.2.2.2.1 tw_730 (by decide) (Nat.le_of_ble_eq_true rfl) dX9_forge_82 (fun _ M10 => ?_)
            skip
            refine v_iload (pc := 85) dX9_forge_85 rfl ?_
            exact v_iret (pc := 87) dX9_forge_87
          · refine v_sipush (pc := 57) (-1002) dX9_forge_57 (by decide) ?_
            exact v_iret (pc := 60) dX9_forge_60
    · refine v_sipush (pc := 28) (-1001) dX9_forge_28 (by decide) ?_
      exact v_iret (pc := 31) dX9_forge_31
  · refine v_sipush (pc := 7) (-1002) dX9_forge_7 (by decide) ?_
    exact v_iret (pc := 10) dX9_forge_10
theorem cNN_forge (l : Launch) (G : zG) (v1 : Int32) (v2 : Int32) (v3 : Int32) (v4 : Int32) (M : zM) : zC eI l G zLX zRX 3 yX9_forge cX9_forge 7 (some .int) [.ref 0, .int v1, .int v2, .int v3, .int v4] M (fNN_forge v1 v2 v3 v4 M) := zC.of (by decide) (Nat.le_of_ble_eq_true rfl) (v_sub (wNN_forge l G v1 v2 v3 v4 M) rfl)
theorem dX9_book_0 : decode cX9_book 0 = .ok (.iload_n 1, 1) := by decide +kernel
theorem dX9_book_1 : decode cX9_book 1 = .ok (.invokestatic 162, 3) := by decide +kernel
theorem dX9_book_4 : decode cX9_book 4 = .ok (.ifCond .ne 7, 3) := by decide +kernel
theorem dX9_book_7 : decode cX9_book 7 = .ok (.sipush (-1002), 3) := by decide +kernel
theorem dX9_book_10 : decode cX9_book 10 = .ok (.ireturn, 1) := by decide +kernel
theorem dX9_book_11 : decode cX9_book 11 = .ok (.aload_n 0, 1) := by decide +kernel
theorem dX9_book_12 : decode cX9_book 12 = .ok (.getfield 36, 3) := by decide +kernel
theorem dX9_book_15 : decode cX9_book 15 = .ok (.iload_n 1, 1) := by decide +kernel
theorem dX9_book_16 : decode cX9_book 16 = .ok (.aaload, 1) := by decide +kernel
theorem dX9_book_17 : decode cX9_book 17 = .ok (.astore 4, 2) := by decide +kernel
theorem dX9_book_19 : decode cX9_book 19 = .ok (.aload 4, 2) := by decide +kernel
theorem dX9_book_21 : decode cX9_book 21 = .ok (.iload_n 2, 1) := by decide +kernel
theorem dX9_book_22 : decode cX9_book 22 = .ok (.invokevirtual 200, 3) := by decide +kernel
theorem dX9_book_25 : decode cX9_book 25 = .ok (.ifCond .ne 7, 3) := by decide +kernel
theorem dX9_book_28 : decode cX9_book 28 = .ok (.sipush (-1001), 3) := by decide +kernel
theorem dX9_book_31 : decode cX9_book 31 = .ok (.ireturn, 1) := by decide +kernel
theorem dX9_book_32 : decode cX9_book 32 = .ok (.iload_n 3, 1) := by decide +kernel
theorem dX9_book_33 : decode cX9_book 33 = .ok (.bipush (-2), 2) := by decide +kernel
theorem dX9_book_35 : decode cX9_book 35 = .ok (.if_icmp .ne 13, 3) := by decide +kernel
theorem dX9_book_38 : decode cX9_book 38 = .ok (.aload 4, 2) := by decide +kernel
theorem dX9_book_40 : decode cX9_book 40 = .ok (.getfield 213, 3) := by decide +kernel
theorem dX9_book_43 : decode cX9_book 43 = .ok (.iload_n 2, 1) := by decide +kernel
theorem dX9_book_44 : decode cX9_book 44 = .ok (.iaload, 1) := by decide +kernel
theorem dX9_book_45 : decode cX9_book 45 = .ok (.goto 13, 3) := by decide +kernel
theorem dX9_book_48 : decode cX9_book 48 = .ok (.aload 4, 2) := by decide +kernel
theorem dX9_book_50 : decode cX9_book 50 = .ok (.getfield 203, 3) := by decide +kernel
theorem dX9_book_53 : decode cX9_book 53 = .ok (.iload_n 2, 1) := by decide +kernel
theorem dX9_book_54 : decode cX9_book 54 = .ok (.iload_n 3, 1) := by decide +kernel
theorem dX9_book_55 : decode cX9_book 55 = .ok (.invokevirtual 169, 3) := by decide +kernel
theorem dX9_book_58 : decode cX9_book 58 = .ok (.ireturn, 1) := by decide +kernel
theorem wNN_book (l : Launch) (G : zG) (v1 : Int32) (v2 : Int32) (v3 : Int32) (M : zM) : zV eI l G zLX zRX 2 yX9_book cX9_book 5 (some .int) 0 [(0, .ref 0), (1, .int v1), (2, .int v2), (3, .int v3)] [] M (fNN_book v1 v2 v3 M) := by
  rw [fNN_book]
  refine v_iload_n (pc := 0) dX9_book_0 rfl ?_
  refine v_callS (pc := 1) (As := [.int v1]) (cNN_isNamedKind l G v1 M) zc_X9_isNamedKind tw_641 (by decide) (Nat.le_of_ble_eq_true rfl) dX9_book_1 (fun r2 M1 => ?_)
  refine v_if_ne (pc := 4) 11 dX9_book_4 (by decide) ?_ ?_
  · refine v_aload_n (pc := 11) dX9_book_11 rfl ?_
    refine v_getR (pc := 12) (q := 3) zk9 lx_0 rfl rx_0_3 tw_434 dX9_book_12 ?_
    refine v_iload_n (pc := 15) dX9_book_15 rfl ?_
    refine v_paald (pc := 16) lx_32 dX9_book_16 (fun b3 hib3 hbb3 => ?_)
    have hb3 := zPg_rows hib3 hbb3
    refine v_astore (pc := 17) dX9_book_17 (by decide) ?_
    refine v_aload (pc := 19) dX9_book_19 rfl ?_
    refine v_iload_n (pc := 21) dX9_book_21 rfl ?_
    refine v_callV (pc := 22) (As := [.int v2]) (cPage_has l G b3 hb3 v2 M1) zc_X4_has zk4 rfl hb3.1 tw_722 (by decide) (Nat.le_of_ble_eq_true rfl) dX9_book_22 (fun r5 M4 => ?_)
    refine v_if_ne (pc := 25) 32 dX9_book_25 (by decide) ?_ ?_
    · refine v_iload_n (pc := 32) dX9_book_32 rfl ?_
      refine v_bipush (pc := 33) (-2) dX9_book_33 (by decide) ?_
      refine v_icmp_ne (pc := 35) 48 dX9_book_35 (by decide) ?_ ?_
      · refine v_aload (pc := 48) dX9_book_48 rfl ?_
        refine v_getR (pc := 50) (q := 1) zk4 hb3.1 rfl hb3.2.2.1 tw_292 dX9_book_50 ?_
        refine v_iload_n (pc := 53) dX9_book_53 rfl ?_
        refine v_iload_n (pc := 54) dX9_book_54 rfl ?_
        refine v_callV (pc := 55) (As := [.int v2, .int v3]) (cNames_number l G (b3 + 2) hb3.2.2.2.2 v2 v3 M4) zc_X2_number zk2 rfl hb3.2.2.2.2.1 tw_645 (by decide) (Nat.le_of_ble_eq_true rfl) dX9_book_55 (fun r7 M6 => ?_)
        exact v_iret (pc := 58) dX9_book_58
      · refine v_aload (pc := 38) dX9_book_38 rfl ?_
        refine v_getR (pc := 40) (q := 2) zk4 hb3.1 rfl hb3.2.2.2.1 tw_294 dX9_book_40 ?_
        refine v_iload_n (pc := 43) dX9_book_43 rfl ?_
        refine v_iald (pc := 44) hb3.2.1 dX9_book_44 (fun x8 => ?_)
        refine v_goto (pc := 45) 58 dX9_book_45 (by decide) ?_
        exact v_iret (pc := 58) dX9_book_58
    · refine v_sipush (pc := 28) (-1001) dX9_book_28 (by decide) ?_
      exact v_iret (pc := 31) dX9_book_31
  · refine v_sipush (pc := 7) (-1002) dX9_book_7 (by decide) ?_
    exact v_iret (pc := 10) dX9_book_10
theorem cNN_book (l : Launch) (G : zG) (v1 : Int32) (v2 : Int32) (v3 : Int32) (M : zM) : zC eI l G zLX zRX 2 yX9_book cX9_book 5 (some .int) [.ref 0, .int v1, .int v2, .int v3] M (fNN_book v1 v2 v3 M) := zC.of (by decide) (Nat.le_of_ble_eq_true rfl) (v_sub (wNN_book l G v1 v2 v3 M) rfl)
theorem dX9_answer_0 : decode cX9_answer 0 = .ok (.iload_n 1, 1) := by decide +kernel
theorem dX9_answer_1 : decode cX9_answer 1 = .ok (.invokestatic 162, 3) := by decide +kernel
theorem dX9_answer_4 : decode cX9_answer 4 = .ok (.ifCond .ne 7, 3) := by decide +kernel
theorem dX9_answer_7 : decode cX9_answer 7 = .ok (.sipush (-1002), 3) := by decide +kernel
theorem dX9_answer_10 : decode cX9_answer 10 = .ok (.ireturn, 1) := by decide +kernel
theorem dX9_answer_11 : decode cX9_answer 11 = .ok (.aload_n 0, 1) := by decide +kernel
theorem dX9_answer_12 : decode cX9_answer 12 = .ok (.getfield 36, 3) := by decide +kernel
theorem dX9_answer_15 : decode cX9_answer 15 = .ok (.iload_n 1, 1) := by decide +kernel
theorem dX9_answer_16 : decode cX9_answer 16 = .ok (.aaload, 1) := by decide +kernel
theorem dX9_answer_17 : decode cX9_answer 17 = .ok (.astore 4, 2) := by decide +kernel
theorem dX9_answer_19 : decode cX9_answer 19 = .ok (.aload 4, 2) := by decide +kernel
theorem dX9_answer_21 : decode cX9_answer 21 = .ok (.iload_n 2, 1) := by decide +kernel
theorem dX9_answer_22 : decode cX9_answer 22 = .ok (.invokevirtual 200, 3) := by decide +kernel
theorem dX9_answer_25 : decode cX9_answer 25 = .ok (.ifCond .eq 12, 3) := by decide +kernel
theorem dX9_answer_28 : decode cX9_answer 28 = .ok (.aload 4, 2) := by decide +kernel
theorem dX9_answer_30 : decode cX9_answer 30 = .ok (.iload_n 3, 1) := by decide +kernel
theorem dX9_answer_31 : decode cX9_answer 31 = .ok (.invokevirtual 200, 3) := by decide +kernel
theorem dX9_answer_34 : decode cX9_answer 34 = .ok (.ifCond .ne 7, 3) := by decide +kernel
theorem dX9_answer_37 : decode cX9_answer 37 = .ok (.sipush (-1001), 3) := by decide +kernel
theorem dX9_answer_40 : decode cX9_answer 40 = .ok (.ireturn, 1) := by decide +kernel
theorem dX9_answer_41 : decode cX9_answer 41 = .ok (.aload 4, 2) := by decide +kernel
theorem dX9_answer_43 : decode cX9_answer 43 = .ok (.iload_n 2, 1) := by decide +kernel
theorem dX9_answer_44 : decode cX9_answer 44 = .ok (.invokevirtual 216, 3) := by decide +kernel
theorem dX9_answer_47 : decode cX9_answer 47 = .ok (.ifCond .eq 12, 3) := by decide +kernel
theorem dX9_answer_50 : decode cX9_answer 50 = .ok (.aload 4, 2) := by decide +kernel
theorem dX9_answer_52 : decode cX9_answer 52 = .ok (.iload_n 3, 1) := by decide +kernel
theorem dX9_answer_53 : decode cX9_answer 53 = .ok (.invokevirtual 216, 3) := by decide +kernel
theorem dX9_answer_56 : decode cX9_answer 56 = .ok (.ifCond .ne 7, 3) := by decide +kernel
theorem dX9_answer_59 : decode cX9_answer 59 = .ok (.sipush (-1005), 3) := by decide +kernel
theorem dX9_answer_62 : decode cX9_answer 62 = .ok (.ireturn, 1) := by decide +kernel
theorem dX9_answer_63 : decode cX9_answer 63 = .ok (.aload 4, 2) := by decide +kernel
theorem dX9_answer_65 : decode cX9_answer 65 = .ok (.getfield 203, 3) := by decide +kernel
theorem dX9_answer_68 : decode cX9_answer 68 = .ok (.iload_n 2, 1) := by decide +kernel
theorem dX9_answer_69 : decode cX9_answer 69 = .ok (.iload_n 3, 1) := by decide +kernel
theorem dX9_answer_70 : decode cX9_answer 70 = .ok (.invokevirtual 177, 3) := by decide +kernel
theorem dX9_answer_73 : decode cX9_answer 73 = .ok (.ireturn, 1) := by decide +kernel
theorem wNN_answer (l : Launch) (G : zG) (v1 : Int32) (v2 : Int32) (v3 : Int32) (M : zM) : zV eI l G zLX zRX 4 yX9_answer cX9_answer 5 (some .int) 0 [(0, .ref 0), (1, .int v1), (2, .int v2), (3, .int v3)] [] M (fNN_answer v1 v2 v3 M) := by
  rw [fNN_answer]
  refine v_iload_n (pc := 0) dX9_answer_0 rfl ?_
  refine v_callS (pc := 1) (As := [.int v1]) (cNN_isNamedKind l G v1 M) zc_X9_isNamedKind tw_641 (by decide) (Nat.le_of_ble_eq_true rfl) dX9_answer_1 (fun r2 M1 => ?_)
  refine v_if_ne (pc := 4) 11 dX9_answer_4 (by decide) ?_ ?_
  · refine v_aload_n (pc := 11) dX9_answer_11 rfl ?_
    refine v_getR (pc := 12) (q := 3) zk9 lx_0 rfl rx_0_3 tw_434 dX9_answer_12 ?_
    refine v_iload_n (pc := 15) dX9_answer_15 rfl ?_
    refine v_paald (pc := 16) lx_32 dX9_answer_16 (fun b3 hib3 hbb3 => ?_)
    have hb3 := zPg_rows hib3 hbb3
    refine v_astore (pc := 17) dX9_answer_17 (by decide) ?_
    refine v_aload (pc := 19) dX9_answer_19 rfl ?_
    refine v_iload_n (pc := 21) dX9_answer_21 rfl ?_
    refine v_callV (pc := 22) (As := [.int v2]) (cPage_has l G b3 hb3 v2 M1) zc_X4_has zk4 rfl hb3.1 tw_722 (by decide) (Nat.le_of_ble_eq_true rfl) dX9_answer_22 (fun r5 M4 => ?_)
    refine v_if_eq (pc := 25) 37 dX9_answer_25 (by decide) ?_ ?_
    · refine v_sipush (pc := 37) (-1001) dX9_answer_37 (by decide) ?_
      exact v_iret (pc := 40) dX9_answer_40
    · refine v_aload (pc := 28) dX9_answer_28 rfl ?_
      refine v_iload_n (pc := 30) dX9_answer_30 rfl ?_
      refine v_callV (pc := 31) (As := [.int v3]) (cPage_has l G b3 hb3 v3 M4) zc_X4_has zk4 rfl hb3.1 tw_722 (by decide) (Nat.le_of_ble_eq_true rfl) dX9_answer_31 (fun r7 M6 => ?_)
      refine v_if_ne (pc := 34) 41 dX9_answer_34 (by decide) ?_ ?_
      · refine v_aload (pc := 41) dX9_answer_41 rfl ?_
        refine v_iload_n (pc := 43) dX9_answer_43 rfl ?_
        refine v_callV (pc := 44) (As := [.int v2]) (cPage_isRight l G b3 hb3 v2 M6) zc_X4_isRight zk4 rfl hb3.1 tw_743 (by decide) (Nat.le_of_ble_eq_true rfl) dX9_answer_44 (fun r9 M8 => ?_)
        refine v_if_eq (pc := 47) 59 dX9_answer_47 (by decide) ?_ ?_
        · refine v_sipush (pc := 59) (-1005) dX9_answer_59 (by decide) ?_
          exact v_iret (pc := 62) dX9_answer_62
        · refine v_aload (pc := 50) dX9_answer_50 rfl ?_
          refine v_iload_n (pc := 52) dX9_answer_52 rfl ?_
          refine v_callV (pc := 53) (As := [.int v3]) (cPage_isRight l G b3 hb3 v3 M8) zc_X4_isRight zk4 rfl hb3.1 tw_743 (by decide) (Nat.le_of_ble_eq_true rfl) dX9_answer_53 (fun r11 M10 => ?_)
          refine v_if_ne (pc := 56) 63 dX9_answer_56 (by decide) ?_ ?_
          · refine v_aload (pc := 63) dX9_answer_63 rfl ?_
            refine v_getR (pc := 65) (q := 1) zk4 hb3.1 rfl hb3.2.2.1 tw_292 dX9_answer_65 ?_
            refine v_iload_n (pc := 68) dX9_answer_68 rfl ?_
            refine v_iload_n (pc := 69) dX9_answer_69 rfl ?_
            refine v_callV (pc := 70) (As := [.int v2, .int v3]) (cNames_reply l G (b3 + 2) hb3.2.2.2.2 v2 v3 M10) zc_X2_reply zk2 rfl hb3.2.2.2.2.1 tw_658 (by decide) (Nat.le_of_ble_eq_true rfl) dX9_answer_70 (fun r13 M12 => ?_)
            exact v_iret (pc := 73) dX9_answer_73
          · refine v_sipush (pc := 59) (-1005) dX9_answer_59 (by decide) ?_
            exact v_iret (pc := 62) dX9_answer_62
      · refine v_sipush (pc := 37) (-1001) dX9_answer_37 (by decide) ?_
        exact v_iret (pc := 40) dX9_answer_40
  · refine v_sipush (pc := 7) (-1002) dX9_answer_7 (by decide) ?_
    exact v_iret (pc := 10) dX9_answer_10
theorem cNN_answer (l : Launch) (G : zG) (v1 : Int32) (v2 : Int32) (v3 : Int32) (M : zM) : zC eI l G zLX zRX 4 yX9_answer cX9_answer 5 (some .int) [.ref 0, .int v1, .int v2, .int v3] M (fNN_answer v1 v2 v3 M) := zC.of (by decide) (Nat.le_of_ble_eq_true rfl) (v_sub (wNN_answer l G v1 v2 v3 M) rfl)
theorem dX9_stale_0 : decode cX9_stale 0 = .ok (.iload_n 1, 1) := by decide +kernel
theorem dX9_stale_1 : decode cX9_stale 1 = .ok (.invokestatic 162, 3) := by decide +kernel
theorem dX9_stale_4 : decode cX9_stale 4 = .ok (.ifCond .ne 7, 3) := by decide +kernel
theorem dX9_stale_7 : decode cX9_stale 7 = .ok (.sipush (-1002), 3) := by decide +kernel
theorem dX9_stale_10 : decode cX9_stale 10 = .ok (.ireturn, 1) := by decide +kernel
theorem dX9_stale_11 : decode cX9_stale 11 = .ok (.aload_n 0, 1) := by decide +kernel
theorem dX9_stale_12 : decode cX9_stale 12 = .ok (.getfield 36, 3) := by decide +kernel
theorem dX9_stale_15 : decode cX9_stale 15 = .ok (.iload_n 1, 1) := by decide +kernel
theorem dX9_stale_16 : decode cX9_stale 16 = .ok (.aaload, 1) := by decide +kernel
theorem dX9_stale_17 : decode cX9_stale 17 = .ok (.getfield 219, 3) := by decide +kernel
theorem dX9_stale_20 : decode cX9_stale 20 = .ok (.ifCond .ne 7, 3) := by decide +kernel
theorem dX9_stale_23 : decode cX9_stale 23 = .ok (.sipush (-1003), 3) := by decide +kernel
theorem dX9_stale_26 : decode cX9_stale 26 = .ok (.ireturn, 1) := by decide +kernel
theorem dX9_stale_27 : decode cX9_stale 27 = .ok (.aload_n 0, 1) := by decide +kernel
theorem dX9_stale_28 : decode cX9_stale 28 = .ok (.getfield 36, 3) := by decide +kernel
theorem dX9_stale_31 : decode cX9_stale 31 = .ok (.iload_n 1, 1) := by decide +kernel
theorem dX9_stale_32 : decode cX9_stale 32 = .ok (.aaload, 1) := by decide +kernel
theorem dX9_stale_33 : decode cX9_stale 33 = .ok (.aload_n 0, 1) := by decide +kernel
theorem dX9_stale_34 : decode cX9_stale 34 = .ok (.getfield 30, 3) := by decide +kernel
theorem dX9_stale_37 : decode cX9_stale 37 = .ok (.iload_n 1, 1) := by decide +kernel
theorem dX9_stale_38 : decode cX9_stale 38 = .ok (.invokevirtual 165, 3) := by decide +kernel
theorem dX9_stale_41 : decode cX9_stale 41 = .ok (.invokevirtual 192, 3) := by decide +kernel
theorem dX9_stale_44 : decode cX9_stale 44 = .ok (.ireturn, 1) := by decide +kernel
theorem wNN_stale (l : Launch) (G : zG) (v1 : Int32) (M : zM) : zV eI l G zLX zRX 6 yX9_stale cX9_stale 2 (some .int) 0 [(0, .ref 0), (1, .int v1)] [] M (fNN_stale v1 M) := by
  rw [fNN_stale]
  refine v_iload_n (pc := 0) dX9_stale_0 rfl ?_
  refine v_callS (pc := 1) (As := [.int v1]) (cNN_isNamedKind l G v1 M) zc_X9_isNamedKind tw_641 (by decide) (Nat.le_of_ble_eq_true rfl) dX9_stale_1 (fun r2 M1 => ?_)
  refine v_if_ne (pc := 4) 11 dX9_stale_4 (by decide) ?_ ?_
  · refine v_aload_n (pc := 11) dX9_stale_11 rfl ?_
    refine v_getR (pc := 12) (q := 3) zk9 lx_0 rfl rx_0_3 tw_434 dX9_stale_12 ?_
    refine v_iload_n (pc := 15) dX9_stale_15 rfl ?_
    refine v_paald (pc := 16) lx_32 dX9_stale_16 (fun b3 hib3 hbb3 => ?_)
    have hb3 := zPg_rows hib3 hbb3
    refine v_getI (pc := 17) (q := 0) zk4 hb3.1 rfl tw_290 dX9_stale_17 ?_
    refine v_if_ne (pc := 20) 27 dX9_stale_20 (by decide) ?_ ?_
    · refine v_aload_n (pc := 27) dX9_stale_27 rfl ?_
      refine v_getR (pc := 28) (q := 3) zk9 lx_0 rfl rx_0_3 tw_434 dX9_stale_28 ?_
      refine v_iload_n (pc := 31) dX9_stale_31 rfl ?_
      refine v_paald (pc := 32) lx_32 dX9_stale_32 (fun b4 hib4 hbb4 => ?_)
      have hb4 := zPg_rows hib4 hbb4
      refine v_aload_n (pc := 33) dX9_stale_33 rfl ?_
      refine v_getR (pc := 34) (q := 2) zk9 lx_0 rfl rx_0_2 tw_433 dX9_stale_34 ?_
      refine v_iload_n (pc := 37) dX9_stale_37 rfl ?_
      refine v_callV (pc := 38) (As := [.int v1]) (cLabels_now l G v1 M1) zc_X1_now zk1 rfl lx_14 tw_644 (by decide) (Nat.le_of_ble_eq_true rfl) dX9_stale_38 (fun r6 M5 => ?_)
      refine v_ifP (fun hgr6 => ?_)
      have hr6 := zN_of hgr6
      refine v_callV (pc := 41) (As := [.ref r6]) (cPage_unlike l G b4 hb4 r6 hr6 M5) zc_X4_unlike zk4 rfl hb4.1 tw_694 (by decide) (Nat.le_of_ble_eq_true rfl) dX9_stale_41 (fun r8 M7 => ?_)
      exact v_iret (pc := 44) dX9_stale_44
    · refine v_sipush (pc := 23) (-1003) dX9_stale_23 (by decide) ?_
      exact v_iret (pc := 26) dX9_stale_26
  · refine v_sipush (pc := 7) (-1002) dX9_stale_7 (by decide) ?_
    exact v_iret (pc := 10) dX9_stale_10
theorem cNN_stale (l : Launch) (G : zG) (v1 : Int32) (M : zM) : zC eI l G zLX zRX 6 yX9_stale cX9_stale 2 (some .int) [.ref 0, .int v1] M (fNN_stale v1 M) := zC.of (by decide) (Nat.le_of_ble_eq_true rfl) (v_sub (wNN_stale l G v1 M) rfl)
theorem dX9_damaged_0 : decode cX9_damaged 0 = .ok (.iload_n 1, 1) := by decide +kernel
theorem dX9_damaged_1 : decode cX9_damaged 1 = .ok (.invokestatic 162, 3) := by decide +kernel
theorem dX9_damaged_4 : decode cX9_damaged 4 = .ok (.ifCond .ne 7, 3) := by decide +kernel
theorem dX9_damaged_7 : decode cX9_damaged 7 = .ok (.sipush (-1002), 3) := by decide +kernel
theorem dX9_damaged_10 : decode cX9_damaged 10 = .ok (.ireturn, 1) := by decide +kernel
theorem dX9_damaged_11 : decode cX9_damaged 11 = .ok (.aload_n 0, 1) := by decide +kernel
theorem dX9_damaged_12 : decode cX9_damaged 12 = .ok (.getfield 36, 3) := by decide +kernel
theorem dX9_damaged_15 : decode cX9_damaged 15 = .ok (.iload_n 1, 1) := by decide +kernel
theorem dX9_damaged_16 : decode cX9_damaged 16 = .ok (.aaload, 1) := by decide +kernel
theorem dX9_damaged_17 : decode cX9_damaged 17 = .ok (.getfield 219, 3) := by decide +kernel
theorem dX9_damaged_20 : decode cX9_damaged 20 = .ok (.ifCond .ne 7, 3) := by decide +kernel
theorem dX9_damaged_23 : decode cX9_damaged 23 = .ok (.sipush (-1003), 3) := by decide +kernel
theorem dX9_damaged_26 : decode cX9_damaged 26 = .ok (.ireturn, 1) := by decide +kernel
theorem dX9_damaged_27 : decode cX9_damaged 27 = .ok (.aload_n 0, 1) := by decide +kernel
theorem dX9_damaged_28 : decode cX9_damaged 28 = .ok (.getfield 36, 3) := by decide +kernel
theorem dX9_damaged_31 : decode cX9_damaged 31 = .ok (.iload_n 1, 1) := by decide +kernel
theorem dX9_damaged_32 : decode cX9_damaged 32 = .ok (.aaload, 1) := by decide +kernel
theorem dX9_damaged_33 : decode cX9_damaged 33 = .ok (.invokevirtual 223, 3) := by decide +kernel
theorem dX9_damaged_36 : decode cX9_damaged 36 = .ok (.ireturn, 1) := by decide +kernel
theorem wNN_damaged (l : Launch) (G : zG) (v1 : Int32) (M : zM) : zV eI l G zLX zRX 5 yX9_damaged cX9_damaged 2 (some .int) 0 [(0, .ref 0), (1, .int v1)] [] M (fNN_damaged v1 M) := by
  rw [fNN_damaged]
  refine v_iload_n (pc := 0) dX9_damaged_0 rfl ?_
  refine v_callS (pc := 1) (As := [.int v1]) (cNN_isNamedKind l G v1 M) zc_X9_isNamedKind tw_641 (by decide) (Nat.le_of_ble_eq_true rfl) dX9_damaged_1 (fun r2 M1 => ?_)
  refine v_if_ne (pc := 4) 11 dX9_damaged_4 (by decide) ?_ ?_
  · refine v_aload_n (pc := 11) dX9_damaged_11 rfl ?_
    refine v_getR (pc := 12) (q := 3) zk9 lx_0 rfl rx_0_3 tw_434 dX9_damaged_12 ?_
    refine v_iload_n (pc := 15) dX9_damaged_15 rfl ?_
    refine v_paald (pc := 16) lx_32 dX9_damaged_16 (fun b3 hib3 hbb3 => ?_)
    have hb3 := zPg_rows hib3 hbb3
    refine v_getI (pc := 17) (q := 0) zk4 hb3.1 rfl tw_290 dX9_damaged_17 ?_
    refine v_if_ne (pc := 20) 27 dX9_damaged_20 (by decide) ?_ ?_
    · refine v_aload_n (pc := 27) dX9_damaged_27 rfl ?_
      refine v_getR (pc := 28) (q := 3) zk9 lx_0 rfl rx_0_3 tw_434 dX9_damaged_28 ?_
      refine v_iload_n (pc := 31) dX9_damaged_31 rfl ?_
      refine v_paald (pc := 32) lx_32 dX9_damaged_32 (fun b4 hib4 hbb4 => ?_)
      have hb4 := zPg_rows hib4 hbb4
      refine v_callV (pc := 33) (As := []) (cPage_wrongChecks l G b4 hb4 M1) zc_X4_wrongChecks zk4 rfl hb4.1 tw_755 (by decide) (Nat.le_of_ble_eq_true rfl) dX9_damaged_33 (fun r6 M5 => ?_)
      exact v_iret (pc := 36) dX9_damaged_36
    · refine v_sipush (pc := 23) (-1003) dX9_damaged_23 (by decide) ?_
      exact v_iret (pc := 26) dX9_damaged_26
  · refine v_sipush (pc := 7) (-1002) dX9_damaged_7 (by decide) ?_
    exact v_iret (pc := 10) dX9_damaged_10
theorem cNN_damaged (l : Launch) (G : zG) (v1 : Int32) (M : zM) : zC eI l G zLX zRX 5 yX9_damaged cX9_damaged 2 (some .int) [.ref 0, .int v1] M (fNN_damaged v1 M) := zC.of (by decide) (Nat.le_of_ble_eq_true rfl) (v_sub (wNN_damaged l G v1 M) rfl)
theorem dX9_next_0 : decode cX9_next 0 = .ok (.aload_n 0, 1) := by decide +kernel
theorem dX9_next_1 : decode cX9_next 1 = .ok (.getfield 10, 3) := by decide +kernel
theorem dX9_next_4 : decode cX9_next 4 = .ok (.iload_n 1, 1) := by decide +kernel
theorem dX9_next_5 : decode cX9_next 5 = .ok (.iload_n 2, 1) := by decide +kernel
theorem dX9_next_6 : decode cX9_next 6 = .ok (.invokevirtual 84, 3) := by decide +kernel
theorem dX9_next_9 : decode cX9_next 9 = .ok (.ifCond .eq 15, 3) := by decide +kernel
theorem dX9_next_12 : decode cX9_next 12 = .ok (.aload_n 0, 1) := by decide +kernel
theorem dX9_next_13 : decode cX9_next 13 = .ok (.getfield 48, 3) := by decide +kernel
theorem dX9_next_16 : decode cX9_next 16 = .ok (.iload_n 1, 1) := by decide +kernel
theorem dX9_next_17 : decode cX9_next 17 = .ok (.iload_n 2, 1) := by decide +kernel
theorem dX9_next_18 : decode cX9_next 18 = .ok (.invokevirtual 226, 3) := by decide +kernel
theorem dX9_next_21 : decode cX9_next 21 = .ok (.goto 6, 3) := by decide +kernel
theorem dX9_next_24 : decode cX9_next 24 = .ok (.sipush (-1001), 3) := by decide +kernel
theorem dX9_next_27 : decode cX9_next 27 = .ok (.ireturn, 1) := by decide +kernel
theorem wNN_next (l : Launch) (G : zG) (v1 : Int32) (v2 : Int32) (M : zM) : zV eI l G zLX zRX 5 yX9_next cX9_next 3 (some .int) 0 [(0, .ref 0), (1, .int v1), (2, .int v2)] [] M (fNN_next v1 v2 M) := by
  rw [fNN_next]
  refine v_aload_n (pc := 0) dX9_next_0 rfl ?_
  refine v_getR (pc := 1) (q := 0) zk9 lx_0 rfl rx_0_0 tw_431 dX9_next_1 ?_
  refine v_iload_n (pc := 4) dX9_next_4 rfl ?_
  refine v_iload_n (pc := 5) dX9_next_5 rfl ?_
  refine v_callV (pc := 6) (As := [.int v1, .int v2]) (cNet_hasPosts l G v1 v2 M) zc_X3_hasPosts zk3 rfl lx_1 tw_479 (by decide) (Nat.le_of_ble_eq_true rfl) dX9_next_6 (fun r2 M1 => ?_)
  refine v_if_eq (pc := 9) 24 dX9_next_9 (by decide) ?_ ?_
  · refine v_sipush (pc := 24) (-1001) dX9_next_24 (by decide) ?_
    exact v_iret (pc := 27) dX9_next_27
  · refine v_aload_n (pc := 12) dX9_next_12 rfl ?_
    refine v_getR (pc := 13) (q := 4) zk9 lx_0 rfl rx_0_4 tw_435 dX9_next_13 ?_
    refine v_iload_n (pc := 16) dX9_next_16 rfl ?_
    refine v_iload_n (pc := 17) dX9_next_17 rfl ?_
    refine v_callV (pc := 18) (As := [.int v1, .int v2]) (cParcels_step l G v1 v2 M1) zc_X5_step zk5 rfl lx_48 tw_764 (by decide) (Nat.le_of_ble_eq_true rfl) dX9_next_18 (fun r4 M3 => ?_)
    refine v_goto (pc := 21) 27 dX9_next_21 (by decide) ?_
    exact v_iret (pc := 27) dX9_next_27
theorem cNN_next (l : Launch) (G : zG) (v1 : Int32) (v2 : Int32) (M : zM) : zC eI l G zLX zRX 5 yX9_next cX9_next 3 (some .int) [.ref 0, .int v1, .int v2] M (fNN_next v1 v2 M) := zC.of (by decide) (Nat.le_of_ble_eq_true rfl) (v_sub (wNN_next l G v1 v2 M) rfl)
theorem dX9_goes_0 : decode cX9_goes 0 = .ok (.aload_n 0, 1) := by decide +kernel
theorem dX9_goes_1 : decode cX9_goes 1 = .ok (.getfield 10, 3) := by decide +kernel
theorem dX9_goes_4 : decode cX9_goes 4 = .ok (.iload_n 1, 1) := by decide +kernel
theorem dX9_goes_5 : decode cX9_goes 5 = .ok (.iload_n 2, 1) := by decide +kernel
theorem dX9_goes_6 : decode cX9_goes 6 = .ok (.invokevirtual 84, 3) := by decide +kernel
theorem dX9_goes_9 : decode cX9_goes 9 = .ok (.ifCond .eq 15, 3) := by decide +kernel
theorem dX9_goes_12 : decode cX9_goes 12 = .ok (.aload_n 0, 1) := by decide +kernel
theorem dX9_goes_13 : decode cX9_goes 13 = .ok (.getfield 48, 3) := by decide +kernel
theorem dX9_goes_16 : decode cX9_goes 16 = .ok (.iload_n 1, 1) := by decide +kernel
theorem dX9_goes_17 : decode cX9_goes 17 = .ok (.iload_n 2, 1) := by decide +kernel
theorem dX9_goes_18 : decode cX9_goes 18 = .ok (.invokevirtual 229, 3) := by decide +kernel
theorem dX9_goes_21 : decode cX9_goes 21 = .ok (.goto 6, 3) := by decide +kernel
theorem dX9_goes_24 : decode cX9_goes 24 = .ok (.sipush (-1001), 3) := by decide +kernel
theorem dX9_goes_27 : decode cX9_goes 27 = .ok (.ireturn, 1) := by decide +kernel
theorem wNN_goes (l : Launch) (G : zG) (v1 : Int32) (v2 : Int32) (M : zM) : zV eI l G zLX zRX 5 yX9_goes cX9_goes 3 (some .int) 0 [(0, .ref 0), (1, .int v1), (2, .int v2)] [] M (fNN_goes v1 v2 M) := by
  rw [fNN_goes]
  refine v_aload_n (pc := 0) dX9_goes_0 rfl ?_
  refine v_getR (pc := 1) (q := 0) zk9 lx_0 rfl rx_0_0 tw_431 dX9_goes_1 ?_
  refine v_iload_n (pc := 4) dX9_goes_4 rfl ?_
  refine v_iload_n (pc := 5) dX9_goes_5 rfl ?_
  refine v_callV (pc := 6) (As := [.int v1, .int v2]) (cNet_hasPosts l G v1 v2 M) zc_X3_hasPosts zk3 rfl lx_1 tw_479 (by decide) (Nat.le_of_ble_eq_true rfl) dX9_goes_6 (fun r2 M1 => ?_)
  refine v_if_eq (pc := 9) 24 dX9_goes_9 (by decide) ?_ ?_
  · refine v_sipush (pc := 24) (-1001) dX9_goes_24 (by decide) ?_
    exact v_iret (pc := 27) dX9_goes_27
  · refine v_aload_n (pc := 12) dX9_goes_12 rfl ?_
    refine v_getR (pc := 13) (q := 4) zk9 lx_0 rfl rx_0_4 tw_435 dX9_goes_13 ?_
    refine v_iload_n (pc := 16) dX9_goes_16 rfl ?_
    refine v_iload_n (pc := 17) dX9_goes_17 rfl ?_
    refine v_callV (pc := 18) (As := [.int v1, .int v2]) (cParcels_length l G v1 v2 M1) zc_X5_length zk5 rfl lx_48 tw_777 (by decide) (Nat.le_of_ble_eq_true rfl) dX9_goes_18 (fun r4 M3 => ?_)
    refine v_goto (pc := 21) 27 dX9_goes_21 (by decide) ?_
    exact v_iret (pc := 27) dX9_goes_27
theorem cNN_goes (l : Launch) (G : zG) (v1 : Int32) (v2 : Int32) (M : zM) : zC eI l G zLX zRX 5 yX9_goes cX9_goes 3 (some .int) [.ref 0, .int v1, .int v2] M (fNN_goes v1 v2 M) := zC.of (by decide) (Nat.le_of_ble_eq_true rfl) (v_sub (wNN_goes l G v1 v2 M) rfl)
theorem dX9_stretch_0 : decode cX9_stretch 0 = .ok (.iload_n 1, 1) := by decide +kernel
theorem dX9_stretch_1 : decode cX9_stretch 1 = .ok (.tableswitch 75 0 3 #[31, 42, 53, 64], 31) := by decide +kernel
theorem dX9_stretch_32 : decode cX9_stretch 32 = .ok (.aload_n 0, 1) := by decide +kernel
theorem dX9_stretch_33 : decode cX9_stretch 33 = .ok (.getfield 48, 3) := by decide +kernel
theorem dX9_stretch_36 : decode cX9_stretch 36 = .ok (.invokevirtual 231, 3) := by decide +kernel
theorem dX9_stretch_39 : decode cX9_stretch 39 = .ok (.getfield 234, 3) := by decide +kernel
theorem dX9_stretch_42 : decode cX9_stretch 42 = .ok (.ireturn, 1) := by decide +kernel
theorem dX9_stretch_43 : decode cX9_stretch 43 = .ok (.aload_n 0, 1) := by decide +kernel
theorem dX9_stretch_44 : decode cX9_stretch 44 = .ok (.getfield 48, 3) := by decide +kernel
theorem dX9_stretch_47 : decode cX9_stretch 47 = .ok (.invokevirtual 231, 3) := by decide +kernel
theorem dX9_stretch_50 : decode cX9_stretch 50 = .ok (.getfield 237, 3) := by decide +kernel
theorem dX9_stretch_53 : decode cX9_stretch 53 = .ok (.ireturn, 1) := by decide +kernel
theorem dX9_stretch_54 : decode cX9_stretch 54 = .ok (.aload_n 0, 1) := by decide +kernel
theorem dX9_stretch_55 : decode cX9_stretch 55 = .ok (.getfield 48, 3) := by decide +kernel
theorem dX9_stretch_58 : decode cX9_stretch 58 = .ok (.invokevirtual 231, 3) := by decide +kernel
theorem dX9_stretch_61 : decode cX9_stretch 61 = .ok (.getfield 240, 3) := by decide +kernel
theorem dX9_stretch_64 : decode cX9_stretch 64 = .ok (.ireturn, 1) := by decide +kernel
theorem dX9_stretch_65 : decode cX9_stretch 65 = .ok (.aload_n 0, 1) := by decide +kernel
theorem dX9_stretch_66 : decode cX9_stretch 66 = .ok (.getfield 48, 3) := by decide +kernel
theorem dX9_stretch_69 : decode cX9_stretch 69 = .ok (.invokevirtual 231, 3) := by decide +kernel
theorem dX9_stretch_72 : decode cX9_stretch 72 = .ok (.getfield 242, 3) := by decide +kernel
theorem dX9_stretch_75 : decode cX9_stretch 75 = .ok (.ireturn, 1) := by decide +kernel
theorem dX9_stretch_76 : decode cX9_stretch 76 = .ok (.sipush (-1002), 3) := by decide +kernel
theorem dX9_stretch_79 : decode cX9_stretch 79 = .ok (.ireturn, 1) := by decide +kernel
theorem wNN_stretch (l : Launch) (G : zG) (v1 : Int32) (M : zM) : zV eI l G zLX zRX 7 yX9_stretch cX9_stretch 2 (some .int) 0 [(0, .ref 0), (1, .int v1)] [] M (fNN_stretch v1 M) := by
  rw [fNN_stretch]
  refine v_iload_n (pc := 0) dX9_stretch_0 rfl ?_
  refine v_tsw (pc := 1) (dt := 76) [32, 43, 54, 65] [_, _, _, _] dX9_stretch_1 rfl (by decide) (by decide) (by decide) (by decide) ⟨?_, ?_, ?_, ?_, trivial⟩ ?_
  · refine v_aload_n (pc := 32) dX9_stretch_32 rfl ?_
    refine v_getR (pc := 33) (q := 4) zk9 lx_0 rfl rx_0_4 tw_435 dX9_stretch_33 ?_
    refine v_callV (pc := 36) (As := []) (cParcels_fresh l G  M) zc_X5_fresh zk5 rfl lx_48 tw_786 (by decide) (Nat.le_of_ble_eq_true rfl) dX9_stretch_36 (fun r2 M1 => ?_)
    refine v_ifP (fun hgr2 => ?_)
    subst hgr2
    refine v_getI (pc := 39) (q := 3) zk5 lx_48 rfl tw_312 dX9_stretch_39 ?_
    exact v_iret (pc := 42) dX9_stretch_42
  · refine v_aload_n (pc := 43) dX9_stretch_43 rfl ?_
    refine v_getR (pc := 44) (q := 4) zk9 lx_0 rfl rx_0_4 tw_435 dX9_stretch_44 ?_
    refine v_callV (pc := 47) (As := []) (cParcels_fresh l G  M) zc_X5_fresh zk5 rfl lx_48 tw_786 (by decide) (Nat.le_of_ble_eq_true rfl) dX9_stretch_47 (fun r4 M3 => ?_)
    refine v_ifP (fun hgr4 => ?_)
    subst hgr4
    refine v_getI (pc := 50) (q := 4) zk5 lx_48 rfl tw_314 dX9_stretch_50 ?_
    exact v_iret (pc := 53) dX9_stretch_53
  · refine v_aload_n (pc := 54) dX9_stretch_54 rfl ?_
    refine v_getR (pc := 55) (q := 4) zk9 lx_0 rfl rx_0_4 tw_435 dX9_stretch_55 ?_
    refine v_callV (pc := 58) (As := []) (cParcels_fresh l G  M) zc_X5_fresh zk5 rfl lx_48 tw_786 (by decide) (Nat.le_of_ble_eq_true rfl) dX9_stretch_58 (fun r6 M5 => ?_)
    refine v_ifP (fun hgr6 => ?_)
    subst hgr6
    refine v_getI (pc := 61) (q := 5) zk5 lx_48 rfl tw_316 dX9_stretch_61 ?_
    exact v_iret (pc := 64) dX9_stretch_64
  · refine v_aload_n (pc := 65) dX9_stretch_65 rfl ?_
    refine v_getR (pc := 66) (q := 4) zk9 lx_0 rfl rx_0_4 tw_435 dX9_stretch_66 ?_
    refine v_callV (pc := 69) (As := []) (cParcels_fresh l G  M) zc_X5_fresh zk5 rfl lx_48 tw_786 (by decide) (Nat.le_of_ble_eq_true rfl) dX9_stretch_69 (fun r8 M7 => ?_)
    refine v_ifP (fun hgr8 => ?_)
    subst hgr8
    refine v_getI (pc := 72) (q := 6) zk5 lx_48 rfl tw_318 dX9_stretch_72 ?_
    exact v_iret (pc := 75) dX9_stretch_75
  · refine v_sipush (pc := 76) (-1002) dX9_stretch_76 (by decide) ?_
    exact v_iret (pc := 79) dX9_stretch_79
theorem cNN_stretch (l : Launch) (G : zG) (v1 : Int32) (M : zM) : zC eI l G zLX zRX 7 yX9_stretch cX9_stretch 2 (some .int) [.ref 0, .int v1] M (fNN_stretch v1 M) := zC.of (by decide) (Nat.le_of_ble_eq_true rfl) (v_sub (wNN_stretch l G v1 M) rfl)
theorem dX9_cut_0 : decode cX9_cut 0 = .ok (.aload_n 0, 1) := by decide +kernel
theorem dX9_cut_1 : decode cX9_cut 1 = .ok (.getfield 10, 3) := by decide +kernel
theorem dX9_cut_4 : decode cX9_cut 4 = .ok (.iload_n 1, 1) := by decide +kernel
theorem dX9_cut_5 : decode cX9_cut 5 = .ok (.iload_n 2, 1) := by decide +kernel
theorem dX9_cut_6 : decode cX9_cut 6 = .ok (.invokevirtual 84, 3) := by decide +kernel
theorem dX9_cut_9 : decode cX9_cut 9 = .ok (.ifCond .ne 7, 3) := by decide +kernel
theorem dX9_cut_12 : decode cX9_cut 12 = .ok (.sipush (-1001), 3) := by decide +kernel
theorem dX9_cut_15 : decode cX9_cut 15 = .ok (.ireturn, 1) := by decide +kernel
theorem dX9_cut_16 : decode cX9_cut 16 = .ok (.iload_n 1, 1) := by decide +kernel
theorem dX9_cut_17 : decode cX9_cut 17 = .ok (.iload_n 2, 1) := by decide +kernel
theorem dX9_cut_18 : decode cX9_cut 18 = .ok (.if_icmp .ne 9, 3) := by decide +kernel
theorem dX9_cut_21 : decode cX9_cut 21 = .ok (.sipush (-1003), 3) := by decide +kernel
theorem dX9_cut_24 : decode cX9_cut 24 = .ok (.goto 12, 3) := by decide +kernel
theorem dX9_cut_27 : decode cX9_cut 27 = .ok (.aload_n 0, 1) := by decide +kernel
theorem dX9_cut_28 : decode cX9_cut 28 = .ok (.getfield 55, 3) := by decide +kernel
theorem dX9_cut_31 : decode cX9_cut 31 = .ok (.iload_n 1, 1) := by decide +kernel
theorem dX9_cut_32 : decode cX9_cut 32 = .ok (.iload_n 2, 1) := by decide +kernel
theorem dX9_cut_33 : decode cX9_cut 33 = .ok (.invokevirtual 244, 3) := by decide +kernel
theorem dX9_cut_36 : decode cX9_cut 36 = .ok (.ireturn, 1) := by decide +kernel
theorem wNN_cut (l : Launch) (G : zG) (v1 : Int32) (v2 : Int32) (M : zM) : zV eI l G zLX zRX 11 yX9_cut cX9_cut 3 (some .int) 0 [(0, .ref 0), (1, .int v1), (2, .int v2)] [] M (fNN_cut v1 v2 M) := by
  rw [fNN_cut]
  refine v_aload_n (pc := 0) dX9_cut_0 rfl ?_
  refine v_getR (pc := 1) (q := 0) zk9 lx_0 rfl rx_0_0 tw_431 dX9_cut_1 ?_
  refine v_iload_n (pc := 4) dX9_cut_4 rfl ?_
  refine v_iload_n (pc := 5) dX9_cut_5 rfl ?_
  refine v_callV (pc := 6) (As := [.int v1, .int v2]) (cNet_hasPosts l G v1 v2 M) zc_X3_hasPosts zk3 rfl lx_1 tw_479 (by decide) (Nat.le_of_ble_eq_true rfl) dX9_cut_6 (fun r2 M1 => ?_)
  refine v_if_ne (pc := 9) 16 dX9_cut_9 (by decide) ?_ ?_
  · refine v_iload_n (pc := 16) dX9_cut_16 rfl ?_
    refine v_iload_n (pc := 17) dX9_cut_17 rfl ?_
    refine v_icmp_ne (pc := 18) 27 dX9_cut_18 (by decide) ?_ ?_
    · refine v_aload_n (pc := 27) dX9_cut_27 rfl ?_
      refine v_getR (pc := 28) (q := 5) zk9 lx_0 rfl rx_0_5 tw_436 dX9_cut_28 ?_
      refine v_iload_n (pc := 31) dX9_cut_31 rfl ?_
      refine v_iload_n (pc := 32) dX9_cut_32 rfl ?_
      refine v_callV (pc := 33) (As := [.int v1, .int v2]) (cCuts_fewest l G v1 v2 M1) zc_X0_fewest zk0 rfl lx_49 tw_809 (by decide) (Nat.le_of_ble_eq_true rfl) dX9_cut_33 (fun r4 M3 => ?_)
      exact v_iret (pc := 36) dX9_cut_36
    · refine v_sipush (pc := 21) (-1003) dX9_cut_21 (by decide) ?_
      refine v_goto (pc := 24) 36 dX9_cut_24 (by decide) ?_
      exact v_iret (pc := 36) dX9_cut_36
  · refine v_sipush (pc := 12) (-1001) dX9_cut_12 (by decide) ?_
    exact v_iret (pc := 15) dX9_cut_15
theorem cNN_cut (l : Launch) (G : zG) (v1 : Int32) (v2 : Int32) (M : zM) : zC eI l G zLX zRX 11 yX9_cut cX9_cut 3 (some .int) [.ref 0, .int v1, .int v2] M (fNN_cut v1 v2 M) := zC.of (by decide) (Nat.le_of_ble_eq_true rfl) (v_sub (wNN_cut l G v1 v2 M) rfl)
theorem dX9_ways_0 : decode cX9_ways 0 = .ok (.aload_n 0, 1) := by decide +kernel
theorem dX9_ways_1 : decode cX9_ways 1 = .ok (.getfield 10, 3) := by decide +kernel
theorem dX9_ways_4 : decode cX9_ways 4 = .ok (.iload_n 1, 1) := by decide +kernel
theorem dX9_ways_5 : decode cX9_ways 5 = .ok (.iload_n 2, 1) := by decide +kernel
theorem dX9_ways_6 : decode cX9_ways 6 = .ok (.invokevirtual 84, 3) := by decide +kernel
theorem dX9_ways_9 : decode cX9_ways 9 = .ok (.ifCond .ne 7, 3) := by decide +kernel
theorem dX9_ways_12 : decode cX9_ways 12 = .ok (.sipush (-1001), 3) := by decide +kernel
theorem dX9_ways_15 : decode cX9_ways 15 = .ok (.ireturn, 1) := by decide +kernel
theorem dX9_ways_16 : decode cX9_ways 16 = .ok (.iload_n 1, 1) := by decide +kernel
theorem dX9_ways_17 : decode cX9_ways 17 = .ok (.iload_n 2, 1) := by decide +kernel
theorem dX9_ways_18 : decode cX9_ways 18 = .ok (.if_icmp .ne 9, 3) := by decide +kernel
theorem dX9_ways_21 : decode cX9_ways 21 = .ok (.sipush (-1003), 3) := by decide +kernel
theorem dX9_ways_24 : decode cX9_ways 24 = .ok (.goto 12, 3) := by decide +kernel
theorem dX9_ways_27 : decode cX9_ways 27 = .ok (.aload_n 0, 1) := by decide +kernel
theorem dX9_ways_28 : decode cX9_ways 28 = .ok (.getfield 55, 3) := by decide +kernel
theorem dX9_ways_31 : decode cX9_ways 31 = .ok (.iload_n 1, 1) := by decide +kernel
theorem dX9_ways_32 : decode cX9_ways 32 = .ok (.iload_n 2, 1) := by decide +kernel
theorem dX9_ways_33 : decode cX9_ways 33 = .ok (.invokevirtual 247, 3) := by decide +kernel
theorem dX9_ways_36 : decode cX9_ways 36 = .ok (.ireturn, 1) := by decide +kernel
theorem wNN_ways (l : Launch) (G : zG) (v1 : Int32) (v2 : Int32) (M : zM) : zV eI l G zLX zRX 3 yX9_ways cX9_ways 3 (some .int) 0 [(0, .ref 0), (1, .int v1), (2, .int v2)] [] M (fNN_ways v1 v2 M) := by
  rw [fNN_ways]
  refine v_aload_n (pc := 0) dX9_ways_0 rfl ?_
  refine v_getR (pc := 1) (q := 0) zk9 lx_0 rfl rx_0_0 tw_431 dX9_ways_1 ?_
  refine v_iload_n (pc := 4) dX9_ways_4 rfl ?_
  refine v_iload_n (pc := 5) dX9_ways_5 rfl ?_
  refine v_callV (pc := 6) (As := [.int v1, .int v2]) (cNet_hasPosts l G v1 v2 M) zc_X3_hasPosts zk3 rfl lx_1 tw_479 (by decide) (Nat.le_of_ble_eq_true rfl) dX9_ways_6 (fun r2 M1 => ?_)
  refine v_if_ne (pc := 9) 16 dX9_ways_9 (by decide) ?_ ?_
  · refine v_iload_n (pc := 16) dX9_ways_16 rfl ?_
    refine v_iload_n (pc := 17) dX9_ways_17 rfl ?_
    refine v_icmp_ne (pc := 18) 27 dX9_ways_18 (by decide) ?_ ?_
    · refine v_aload_n (pc := 27) dX9_ways_27 rfl ?_
      refine v_getR (pc := 28) (q := 5) zk9 lx_0 rfl rx_0_5 tw_436 dX9_ways_28 ?_
      refine v_iload_n (pc := 31) dX9_ways_31 rfl ?_
      refine v_iload_n (pc := 32) dX9_ways_32 rfl ?_
      refine v_callV (pc := 33) (As := [.int v1, .int v2]) (cCuts_separateWays l G v1 v2 M1) zc_X0_separateWays zk0 rfl lx_49 tw_821 (by decide) (Nat.le_of_ble_eq_true rfl) dX9_ways_33 (fun r4 M3 => ?_)
      exact v_iret (pc := 36) dX9_ways_36
    · refine v_sipush (pc := 21) (-1003) dX9_ways_21 (by decide) ?_
      refine v_goto (pc := 24) 36 dX9_ways_24 (by decide) ?_
      exact v_iret (pc := 36) dX9_ways_36
  · refine v_sipush (pc := 12) (-1001) dX9_ways_12 (by decide) ?_
    exact v_iret (pc := 15) dX9_ways_15
theorem cNN_ways (l : Launch) (G : zG) (v1 : Int32) (v2 : Int32) (M : zM) : zC eI l G zLX zRX 3 yX9_ways cX9_ways 3 (some .int) [.ref 0, .int v1, .int v2] M (fNN_ways v1 v2 M) := zC.of (by decide) (Nat.le_of_ble_eq_true rfl) (v_sub (wNN_ways l G v1 v2 M) rfl)
theorem dX9_holds_0 : decode cX9_holds 0 = .ok (.iload_n 1, 1) := by decide +kernel
theorem dX9_holds_1 : decode cX9_holds 1 = .ok (.iload_n 2, 1) := by decide +kernel
theorem dX9_holds_2 : decode cX9_holds 2 = .ok (.invokestatic 250, 3) := by decide +kernel
theorem dX9_holds_5 : decode cX9_holds 5 = .ok (.ifCond .eq 12, 3) := by decide +kernel
theorem dX9_holds_8 : decode cX9_holds 8 = .ok (.iload_n 3, 1) := by decide +kernel
theorem dX9_holds_9 : decode cX9_holds 9 = .ok (.iload 4, 2) := by decide +kernel
theorem dX9_holds_11 : decode cX9_holds 11 = .ok (.invokestatic 250, 3) := by decide +kernel
theorem dX9_holds_14 : decode cX9_holds 14 = .ok (.ifCond .ne 7, 3) := by decide +kernel
theorem dX9_holds_17 : decode cX9_holds 17 = .ok (.sipush (-1002), 3) := by decide +kernel
theorem dX9_holds_20 : decode cX9_holds 20 = .ok (.ireturn, 1) := by decide +kernel
theorem dX9_holds_21 : decode cX9_holds 21 = .ok (.aload_n 0, 1) := by decide +kernel
theorem dX9_holds_22 : decode cX9_holds 22 = .ok (.getfield 62, 3) := by decide +kernel
theorem dX9_holds_25 : decode cX9_holds 25 = .ok (.iload_n 1, 1) := by decide +kernel
theorem dX9_holds_26 : decode cX9_holds 26 = .ok (.iload_n 2, 1) := by decide +kernel
theorem dX9_holds_27 : decode cX9_holds 27 = .ok (.iload_n 3, 1) := by decide +kernel
theorem dX9_holds_28 : decode cX9_holds 28 = .ok (.iload 4, 2) := by decide +kernel
theorem dX9_holds_30 : decode cX9_holds 30 = .ok (.invokevirtual 253, 3) := by decide +kernel
theorem dX9_holds_33 : decode cX9_holds 33 = .ok (.ifCond .eq 7, 3) := by decide +kernel
theorem dX9_holds_36 : decode cX9_holds 36 = .ok (.iconst 1, 1) := by decide +kernel
theorem dX9_holds_37 : decode cX9_holds 37 = .ok (.goto 4, 3) := by decide +kernel
theorem dX9_holds_40 : decode cX9_holds 40 = .ok (.iconst 0, 1) := by decide +kernel
theorem dX9_holds_41 : decode cX9_holds 41 = .ok (.ireturn, 1) := by decide +kernel
theorem wNN_holds (l : Launch) (G : zG) (v1 : Int32) (v2 : Int32) (v3 : Int32) (v4 : Int32) (M : zM) : zV eI l G zLX zRX 13 yX9_holds cX9_holds 5 (some .int) 0 [(0, .ref 0), (1, .int v1), (2, .int v2), (3, .int v3), (4, .int v4)] [] M (fNN_holds v1 v2 v3 v4 M) := by
  rw [fNN_holds]
  refine v_iload_n (pc := 0) dX9_holds_0 rfl ?_
  refine v_iload_n (pc := 1) dX9_holds_1 rfl ?_
  refine v_callS (pc := 2) (As := [.int v1, .int v2]) (cSmallNets_isOne l G v1 v2 M) zc_X7_isOne tw_840 (by decide) (Nat.le_of_ble_eq_true rfl) dX9_holds_2 (fun r2 M1 => ?_)
  refine v_if_eq (pc := 5) 17 dX9_holds_5 (by decide) ?_ ?_
  · refine v_sipush (pc := 17) (-1002) dX9_holds_17 (by decide) ?_
    exact v_iret (pc := 20) dX9_holds_20
  · refine v_iload_n (pc := 8) dX9_holds_8 rfl ?_
    refine v_iload (pc := 9) dX9_holds_9 rfl ?_
    refine v_callS (pc := 11) (As := [.int v3, .int v4]) (cSmallNets_isOne l G v3 v4 M1) zc_X7_isOne tw_840 (by decide) (Nat.le_of_ble_eq_true rfl) dX9_holds_11 (fun r4 M3 => ?_)
    refine v_if_ne (pc := 14) 21 dX9_holds_14 (by decide) ?_ ?_
    · refine v_aload_n (pc := 21) dX9_holds_21 rfl ?_
      refine v_getR (pc := 22) (q := 6) zk9 lx_0 rfl rx_0_6 tw_437 dX9_holds_22 ?_
      refine v_iload_n (pc := 25) dX9_holds_25 rfl ?_
      refine v_iload_n (pc := 26) dX9_holds_26 rfl ?_
      refine v_iload_n (pc := 27) dX9_holds_27 rfl ?_
      refine v_iload (pc := 28) dX9_holds_28 rfl ?_
      refine v_callV (pc := 30) (As := [.int v1, .int v2, .int v3, .int v4]) (cSmallNets_contains l G v1 v2 v3 v4 M3) zc_X7_contains zk7 rfl lx_53 tw_846 (by decide) (Nat.le_of_ble_eq_true rfl) dX9_holds_30 (fun r6 M5 => ?_)
      refine v_if_eq (pc := 33) 40 dX9_holds_33 (by decide) ?_ ?_
      · refine v_iconst (pc := 40) 0 dX9_holds_40 (by decide) ?_
        exact v_iret (pc := 41) dX9_holds_41
      · refine v_iconst (pc := 36) 1 dX9_holds_36 (by decide) ?_
        refine v_goto (pc := 37) 41 dX9_holds_37 (by decide) ?_
        exact v_iret (pc := 41) dX9_holds_41
    · refine v_sipush (pc := 17) (-1002) dX9_holds_17 (by decide) ?_
      exact v_iret (pc := 20) dX9_holds_20
theorem cNN_holds (l : Launch) (G : zG) (v1 : Int32) (v2 : Int32) (v3 : Int32) (v4 : Int32) (M : zM) : zC eI l G zLX zRX 13 yX9_holds cX9_holds 5 (some .int) [.ref 0, .int v1, .int v2, .int v3, .int v4] M (fNN_holds v1 v2 v3 v4 M) := zC.of (by decide) (Nat.le_of_ble_eq_true rfl) (v_sub (wNN_holds l G v1 v2 v3 v4 M) rfl)
theorem dX9_universal_0 : decode cX9_universal 0 = .ok (.iload_n 1, 1) := by decide +kernel
theorem dX9_universal_1 : decode cX9_universal 1 = .ok (.iconst 1, 1) := by decide +kernel
theorem dX9_universal_2 : decode cX9_universal 2 = .ok (.if_icmp .lt 27, 3) := by decide +kernel
theorem dX9_universal_5 : decode cX9_universal 5 = .ok (.iload_n 1, 1) := by decide +kernel
theorem dX9_universal_6 : decode cX9_universal 6 = .ok (.iconst 3, 1) := by decide +kernel
theorem dX9_universal_7 : decode cX9_universal 7 = .ok (.if_icmp .gt 22, 3) := by decide +kernel
theorem dX9_universal_10 : decode cX9_universal 10 = .ok (.iload_n 2, 1) := by decide +kernel
theorem dX9_universal_11 : decode cX9_universal 11 = .ok (.iconst 1, 1) := by decide +kernel
theorem dX9_universal_12 : decode cX9_universal 12 = .ok (.if_icmp .lt 17, 3) := by decide +kernel
theorem dX9_universal_15 : decode cX9_universal 15 = .ok (.iload_n 2, 1) := by decide +kernel
theorem dX9_universal_16 : decode cX9_universal 16 = .ok (.iconst 5, 1) := by decide +kernel
theorem dX9_universal_17 : decode cX9_universal 17 = .ok (.if_icmp .gt 12, 3) := by decide +kernel
theorem dX9_universal_20 : decode cX9_universal 20 = .ok (.iload_n 3, 1) := by decide +kernel
theorem dX9_universal_21 : decode cX9_universal 21 = .ok (.ifCond .lt 8, 3) := by decide +kernel
theorem dX9_universal_24 : decode cX9_universal 24 = .ok (.iload_n 3, 1) := by decide +kernel
theorem dX9_universal_25 : decode cX9_universal 25 = .ok (.iconst 1, 1) := by decide +kernel
theorem dX9_universal_26 : decode cX9_universal 26 = .ok (.if_icmp .le 7, 3) := by decide +kernel
theorem dX9_universal_29 : decode cX9_universal 29 = .ok (.sipush (-1002), 3) := by decide +kernel
theorem dX9_universal_32 : decode cX9_universal 32 = .ok (.ireturn, 1) := by decide +kernel
theorem dX9_universal_33 : decode cX9_universal 33 = .ok (.iload_n 3, 1) := by decide +kernel
theorem dX9_universal_34 : decode cX9_universal 34 = .ok (.ifCond .ne 15, 3) := by decide +kernel
theorem dX9_universal_37 : decode cX9_universal 37 = .ok (.aload_n 0, 1) := by decide +kernel
theorem dX9_universal_38 : decode cX9_universal 38 = .ok (.getfield 62, 3) := by decide +kernel
theorem dX9_universal_41 : decode cX9_universal 41 = .ok (.iload_n 1, 1) := by decide +kernel
theorem dX9_universal_42 : decode cX9_universal 42 = .ok (.iload_n 2, 1) := by decide +kernel
theorem dX9_universal_43 : decode cX9_universal 43 = .ok (.invokevirtual 257, 3) := by decide +kernel
theorem dX9_universal_46 : decode cX9_universal 46 = .ok (.goto 12, 3) := by decide +kernel
theorem dX9_universal_49 : decode cX9_universal 49 = .ok (.aload_n 0, 1) := by decide +kernel
theorem dX9_universal_50 : decode cX9_universal 50 = .ok (.getfield 62, 3) := by decide +kernel
theorem dX9_universal_53 : decode cX9_universal 53 = .ok (.iload_n 1, 1) := by decide +kernel
theorem dX9_universal_54 : decode cX9_universal 54 = .ok (.iload_n 2, 1) := by decide +kernel
theorem dX9_universal_55 : decode cX9_universal 55 = .ok (.invokevirtual 260, 3) := by decide +kernel
theorem dX9_universal_58 : decode cX9_universal 58 = .ok (.ireturn, 1) := by decide +kernel
theorem wNN_universal (l : Launch) (G : zG) (v1 : Int32) (v2 : Int32) (v3 : Int32) (M : zM) : zV eI l G zLX zRX 6 yX9_universal cX9_universal 4 (some .int) 0 [(0, .ref 0), (1, .int v1), (2, .int v2), (3, .int v3)] [] M (fNN_universal v1 v2 v3 M) := by
  rw [fNN_universal]
  refine v_iload_n (pc := 0) dX9_universal_0 rfl ?_
  refine v_iconst (pc := 1) 1 dX9_universal_1 (by decide) ?_
  refine v_icmp_lt (pc := 2) 29 dX9_universal_2 (by decide) ?_ ?_
  · refine v_sipush (pc := 29) (-1002) dX9_universal_29 (by decide) ?_
    exact v_iret (pc := 32) dX9_universal_32
  · refine v_iload_n (pc := 5) dX9_universal_5 rfl ?_
    refine v_iconst (pc := 6) 3 dX9_universal_6 (by decide) ?_
    refine v_icmp_gt (pc := 7) 29 dX9_universal_7 (by decide) ?_ ?_
    · refine v_sipush (pc := 29) (-1002) dX9_universal_29 (by decide) ?_
      exact v_iret (pc := 32) dX9_universal_32
    · refine v_iload_n (pc := 10) dX9_universal_10 rfl ?_
      refine v_iconst (pc := 11) 1 dX9_universal_11 (by decide) ?_
      refine v_icmp_lt (pc := 12) 29 dX9_universal_12 (by decide) ?_ ?_
      · refine v_sipush (pc := 29) (-1002) dX9_universal_29 (by decide) ?_
        exact v_iret (pc := 32) dX9_universal_32
      · refine v_iload_n (pc := 15) dX9_universal_15 rfl ?_
        refine v_iconst (pc := 16) 5 dX9_universal_16 (by decide) ?_
        refine v_icmp_gt (pc := 17) 29 dX9_universal_17 (by decide) ?_ ?_
        · refine v_sipush (pc := 29) (-1002) dX9_universal_29 (by decide) ?_
          exact v_iret (pc := 32) dX9_universal_32
        · refine v_iload_n (pc := 20) dX9_universal_20 rfl ?_
          refine v_if_lt (pc := 21) 29 dX9_universal_21 (by decide) ?_ ?_
          · refine v_sipush (pc := 29) (-1002) dX9_universal_29 (by decide) ?_
            exact v_iret (pc := 32) dX9_universal_32
          · refine v_iload_n (pc := 24) dX9_universal_24 rfl ?_
            refine v_iconst (pc := 25) 1 dX9_universal_25 (by decide) ?_
            refine v_icmp_le (pc := 26) 33 dX9_universal_26 (by decide) ?_ ?_
            · refine v_iload_n (pc := 33) dX9_universal_33 rfl ?_
              refine v_if_ne (pc := 34) 49 dX9_universal_34 (by decide) ?_ ?_
              · refine v_aload_n (pc := 49) dX9_universal_49 rfl ?_
                refine v_getR (pc := 50) (q := 6) zk9 lx_0 rfl rx_0_6 tw_437 dX9_universal_50 ?_
                refine v_iload_n (pc := 53) dX9_universal_53 rfl ?_
                refine v_iload_n (pc := 54) dX9_universal_54 rfl ?_
                refine v_callV (pc := 55) (As := [.int v1, .int v2]) (cSmallNets_leastUniversal l G v1 v2 M) zc_X7_leastUniversal zk7 rfl lx_53 tw_883 (by decide) (Nat.le_of_ble_eq_true rfl) dX9_universal_55 (fun r2 M1 => ?_)
                exact v_iret (pc := 58) dX9_universal_58
              · refine v_aload_n (pc := 37) dX9_universal_37 rfl ?_
                refine v_getR (pc := 38) (q := 6) zk9 lx_0 rfl rx_0_6 tw_437 dX9_universal_38 ?_
                refine v_iload_n (pc := 41) dX9_universal_41 rfl ?_
                refine v_iload_n (pc := 42) dX9_universal_42 rfl ?_
                refine v_callV (pc := 43) (As := [.int v1, .int v2]) (cSmallNets_countUniversal l G v1 v2 M) zc_X7_countUniversal zk7 rfl lx_53 tw_867 (by decide) (Nat.le_of_ble_eq_true rfl) dX9_universal_43 (fun r4 M3 => ?_)
                refine v_goto (pc := 46) 58 dX9_universal_46 (by decide) ?_
                exact v_iret (pc := 58) dX9_universal_58
            · refine v_sipush (pc := 29) (-1002) dX9_universal_29 (by decide) ?_
              exact v_iret (pc := 32) dX9_universal_32
theorem cNN_universal (l : Launch) (G : zG) (v1 : Int32) (v2 : Int32) (v3 : Int32) (M : zM) : zC eI l G zLX zRX 6 yX9_universal cX9_universal 4 (some .int) [.ref 0, .int v1, .int v2, .int v3] M (fNN_universal v1 v2 v3 M) := zC.of (by decide) (Nat.le_of_ble_eq_true rfl) (v_sub (wNN_universal l G v1 v2 v3 M) rfl)
theorem dX9_small_0 : decode cX9_small 0 = .ok (.aload_n 0, 1) := by decide +kernel
theorem dX9_small_1 : decode cX9_small 1 = .ok (.getfield 10, 3) := by decide +kernel
theorem dX9_small_4 : decode cX9_small 4 = .ok (.getfield 76, 3) := by decide +kernel
theorem dX9_small_7 : decode cX9_small 7 = .ok (.iconst 5, 1) := by decide +kernel
theorem dX9_small_8 : decode cX9_small 8 = .ok (.if_icmp .le 9, 3) := by decide +kernel
theorem dX9_small_11 : decode cX9_small 11 = .ok (.sipush (-1003), 3) := by decide +kernel
theorem dX9_small_14 : decode cX9_small 14 = .ok (.goto 10, 3) := by decide +kernel
theorem dX9_small_17 : decode cX9_small 17 = .ok (.aload_n 0, 1) := by decide +kernel
theorem dX9_small_18 : decode cX9_small 18 = .ok (.getfield 10, 3) := by decide +kernel
theorem dX9_small_21 : decode cX9_small 21 = .ok (.invokestatic 263, 3) := by decide +kernel
theorem dX9_small_24 : decode cX9_small 24 = .ok (.ireturn, 1) := by decide +kernel
theorem wNN_small (l : Launch) (G : zG)  (M : zM) : zV eI l G zLX zRX 4 yX9_small cX9_small 1 (some .int) 0 [(0, .ref 0)] [] M (fNN_small  M) := by
  rw [fNN_small]
  refine v_aload_n (pc := 0) dX9_small_0 rfl ?_
  refine v_getR (pc := 1) (q := 0) zk9 lx_0 rfl rx_0_0 tw_431 dX9_small_1 ?_
  refine v_getI (pc := 4) (q := 0) zk3 lx_1 rfl tw_118 dX9_small_4 ?_
  refine v_iconst (pc := 7) 5 dX9_small_7 (by decide) ?_
  refine v_icmp_le (pc := 8) 17 dX9_small_8 (by decide) ?_ ?_
  · refine v_aload_n (pc := 17) dX9_small_17 rfl ?_
    refine v_getR (pc := 18) (q := 0) zk9 lx_0 rfl rx_0_0 tw_431 dX9_small_18 ?_
    refine v_callS (pc := 21) (As := [.ref 1]) (cSmallNets_numberOf l G  M) zc_X7_numberOf tw_891 (by decide) (Nat.le_of_ble_eq_true rfl) dX9_small_21 (fun r2 M1 => ?_)
    exact v_iret (pc := 24) dX9_small_24
  · refine v_sipush (pc := 11) (-1003) dX9_small_11 (by decide) ?_
    refine v_goto (pc := 14) 24 dX9_small_14 (by decide) ?_
    exact v_iret (pc := 24) dX9_small_24
theorem cNN_small (l : Launch) (G : zG)  (M : zM) : zC eI l G zLX zRX 4 yX9_small cX9_small 1 (some .int) [.ref 0] M (fNN_small  M) := zC.of (by decide) (Nat.le_of_ble_eq_true rfl) (v_sub (wNN_small l G  M) rfl)
theorem dX9_feed_0 : decode cX9_feed 0 = .ok (.iload_n 1, 1) := by decide +kernel
theorem dX9_feed_1 : decode cX9_feed 1 = .ok (.iconst 1, 1) := by decide +kernel
theorem dX9_feed_2 : decode cX9_feed 2 = .ok (.if_icmp .lt 9, 3) := by decide +kernel
theorem dX9_feed_5 : decode cX9_feed 5 = .ok (.iload_n 1, 1) := by decide +kernel
theorem dX9_feed_6 : decode cX9_feed 6 = .ok (.bipush 8, 2) := by decide +kernel
theorem dX9_feed_8 : decode cX9_feed 8 = .ok (.if_icmp .le 7, 3) := by decide +kernel
theorem dX9_feed_11 : decode cX9_feed 11 = .ok (.sipush (-1002), 3) := by decide +kernel
theorem dX9_feed_14 : decode cX9_feed 14 = .ok (.ireturn, 1) := by decide +kernel
theorem dX9_feed_15 : decode cX9_feed 15 = .ok (.aload_n 0, 1) := by decide +kernel
theorem dX9_feed_16 : decode cX9_feed 16 = .ok (.getfield 69, 3) := by decide +kernel
theorem dX9_feed_19 : decode cX9_feed 19 = .ok (.getfield 115, 3) := by decide +kernel
theorem dX9_feed_22 : decode cX9_feed 22 = .ok (.iload_n 1, 1) := by decide +kernel
theorem dX9_feed_23 : decode cX9_feed 23 = .ok (.iadd, 1) := by decide +kernel
theorem dX9_feed_24 : decode cX9_feed 24 = .ok (.sipush 200, 3) := by decide +kernel
theorem dX9_feed_27 : decode cX9_feed 27 = .ok (.if_icmp .le 7, 3) := by decide +kernel
theorem dX9_feed_30 : decode cX9_feed 30 = .ok (.sipush (-1004), 3) := by decide +kernel
theorem dX9_feed_33 : decode cX9_feed 33 = .ok (.ireturn, 1) := by decide +kernel
theorem dX9_feed_34 : decode cX9_feed 34 = .ok (.aload_n 0, 1) := by decide +kernel
theorem dX9_feed_35 : decode cX9_feed 35 = .ok (.getfield 69, 3) := by decide +kernel
theorem dX9_feed_38 : decode cX9_feed 38 = .ok (.iload_n 1, 1) := by decide +kernel
theorem dX9_feed_39 : decode cX9_feed 39 = .ok (.lload_n 2, 1) := by decide +kernel
theorem dX9_feed_40 : decode cX9_feed 40 = .ok (.invokevirtual 267, 3) := by decide +kernel
theorem dX9_feed_43 : decode cX9_feed 43 = .ok (.ireturn, 1) := by decide +kernel
theorem wNN_feed (l : Launch) (G : zG) (v1 : Int32) (j2 : Int64) (M : zM) : zV eI l G zLX zRX 2 yX9_feed cX9_feed 4 (some .int) 0 [(0, .ref 0), (1, .int v1), (2, .long j2)] [] M (fNN_feed v1 j2 M) := by
  rw [fNN_feed]
  refine v_iload_n (pc := 0) dX9_feed_0 rfl ?_
  refine v_iconst (pc := 1) 1 dX9_feed_1 (by decide) ?_
  refine v_icmp_lt (pc := 2) 11 dX9_feed_2 (by decide) ?_ ?_
  · refine v_sipush (pc := 11) (-1002) dX9_feed_11 (by decide) ?_
    exact v_iret (pc := 14) dX9_feed_14
  · refine v_iload_n (pc := 5) dX9_feed_5 rfl ?_
    refine v_bipush (pc := 6) 8 dX9_feed_6 (by decide) ?_
    refine v_icmp_le (pc := 8) 15 dX9_feed_8 (by decide) ?_ ?_
    · refine v_aload_n (pc := 15) dX9_feed_15 rfl ?_
      refine v_getR (pc := 16) (q := 7) zk9 lx_0 rfl rx_0_7 tw_438 dX9_feed_16 ?_
      refine v_getI (pc := 19) (q := 2) zk6 lx_56 rfl tw_384 dX9_feed_19 ?_
      refine v_iload_n (pc := 22) dX9_feed_22 rfl ?_
      refine v_iadd (pc := 23) dX9_feed_23 ?_
      refine v_sipush (pc := 24) 200 dX9_feed_24 (by decide) ?_
      refine v_icmp_le (pc := 27) 34 dX9_feed_27 (by decide) ?_ ?_
      · refine v_aload_n (pc := 34) dX9_feed_34 rfl ?_
        refine v_getR (pc := 35) (q := 7) zk9 lx_0 rfl rx_0_7 tw_438 dX9_feed_35 ?_
        refine v_iload_n (pc := 38) dX9_feed_38 rfl ?_
        refine v_lload_n (pc := 39) dX9_feed_39 rfl ?_
        refine v_callV (pc := 40) (As := [.int v1, .long j2]) (cScript_append l G v1 j2 M) zc_X6_append zk6 rfl lx_56 tw_898 (by decide) (Nat.le_of_ble_eq_true rfl) dX9_feed_40 (fun r2 M1 => ?_)
        exact v_iret (pc := 43) dX9_feed_43
      · refine v_sipush (pc := 30) (-1004) dX9_feed_30 (by decide) ?_
        exact v_iret (pc := 33) dX9_feed_33
    · refine v_sipush (pc := 11) (-1002) dX9_feed_11 (by decide) ?_
      exact v_iret (pc := 14) dX9_feed_14
theorem cNN_feed (l : Launch) (G : zG) (v1 : Int32) (j2 : Int64) (M : zM) : zC eI l G zLX zRX 2 yX9_feed cX9_feed 4 (some .int) [.ref 0, .int v1, .long j2] M (fNN_feed v1 j2 M) := zC.of (by decide) (Nat.le_of_ble_eq_true rfl) (v_sub (wNN_feed l G v1 j2 M) rfl)
theorem dX9_replyTo_0 : decode cX9_replyTo 0 = .ok (.iload_n 1, 1) := by decide +kernel
theorem dX9_replyTo_1 : decode cX9_replyTo 1 = .ok (.iconst 4, 1) := by decide +kernel
theorem dX9_replyTo_2 : decode cX9_replyTo 2 = .ok (.if_icmp .ne 13, 3) := by decide +kernel
theorem dX9_replyTo_5 : decode cX9_replyTo 5 = .ok (.aload_n 0, 1) := by decide +kernel
theorem dX9_replyTo_6 : decode cX9_replyTo 6 = .ok (.getfield 48, 3) := by decide +kernel
theorem dX9_replyTo_9 : decode cX9_replyTo 9 = .ok (.iload_n 2, 1) := by decide +kernel
theorem dX9_replyTo_10 : decode cX9_replyTo 10 = .ok (.iload_n 3, 1) := by decide +kernel
theorem dX9_replyTo_11 : decode cX9_replyTo 11 = .ok (.invokevirtual 226, 3) := by decide +kernel
theorem dX9_replyTo_14 : decode cX9_replyTo 14 = .ok (.ireturn, 1) := by decide +kernel
theorem dX9_replyTo_15 : decode cX9_replyTo 15 = .ok (.iload_n 1, 1) := by decide +kernel
theorem dX9_replyTo_16 : decode cX9_replyTo 16 = .ok (.iconst 3, 1) := by decide +kernel
theorem dX9_replyTo_17 : decode cX9_replyTo 17 = .ok (.if_icmp .ne 23, 3) := by decide +kernel
theorem dX9_replyTo_20 : decode cX9_replyTo 20 = .ok (.aload_n 0, 1) := by decide +kernel
theorem dX9_replyTo_21 : decode cX9_replyTo 21 = .ok (.getfield 55, 3) := by decide +kernel
theorem dX9_replyTo_24 : decode cX9_replyTo 24 = .ok (.iload_n 2, 1) := by decide +kernel
theorem dX9_replyTo_25 : decode cX9_replyTo 25 = .ok (.iload_n 3, 1) := by decide +kernel
theorem dX9_replyTo_26 : decode cX9_replyTo 26 = .ok (.iload 4, 2) := by decide +kernel
theorem dX9_replyTo_28 : decode cX9_replyTo 28 = .ok (.invokevirtual 188, 3) := by decide +kernel
theorem dX9_replyTo_31 : decode cX9_replyTo 31 = .ok (.ifCond .eq 7, 3) := by decide +kernel
theorem dX9_replyTo_34 : decode cX9_replyTo 34 = .ok (.iconst 1, 1) := by decide +kernel
theorem dX9_replyTo_35 : decode cX9_replyTo 35 = .ok (.goto 4, 3) := by decide +kernel
theorem dX9_replyTo_38 : decode cX9_replyTo 38 = .ok (.iconst 0, 1) := by decide +kernel
theorem dX9_replyTo_39 : decode cX9_replyTo 39 = .ok (.ireturn, 1) := by decide +kernel
theorem dX9_replyTo_40 : decode cX9_replyTo 40 = .ok (.iload_n 1, 1) := by decide +kernel
theorem dX9_replyTo_41 : decode cX9_replyTo 41 = .ok (.invokestatic 162, 3) := by decide +kernel
theorem dX9_replyTo_44 : decode cX9_replyTo 44 = .ok (.ifCond .eq 19, 3) := by decide +kernel
theorem dX9_replyTo_47 : decode cX9_replyTo 47 = .ok (.aload_n 0, 1) := by decide +kernel
theorem dX9_replyTo_48 : decode cX9_replyTo 48 = .ok (.getfield 30, 3) := by decide +kernel
theorem dX9_replyTo_51 : decode cX9_replyTo 51 = .ok (.iload_n 1, 1) := by decide +kernel
theorem dX9_replyTo_52 : decode cX9_replyTo 52 = .ok (.invokevirtual 165, 3) := by decide +kernel
theorem dX9_replyTo_55 : decode cX9_replyTo 55 = .ok (.iload_n 2, 1) := by decide +kernel
theorem dX9_replyTo_56 : decode cX9_replyTo 56 = .ok (.iload_n 3, 1) := by decide +kernel
theorem dX9_replyTo_57 : decode cX9_replyTo 57 = .ok (.invokevirtual 177, 3) := by decide +kernel
theorem dX9_replyTo_60 : decode cX9_replyTo 60 = .ok (.goto 4, 3) := by decide +kernel
theorem dX9_replyTo_63 : decode cX9_replyTo 63 = .ok (.iconst (-1), 1) := by decide +kernel
theorem dX9_replyTo_64 : decode cX9_replyTo 64 = .ok (.ireturn, 1) := by decide +kernel
theorem wNN_replyTo (l : Launch) (G : zG) (v1 : Int32) (v2 : Int32) (v3 : Int32) (v4 : Int32) (M : zM) : zV eI l G zLX zRX 6 yX9_replyTo cX9_replyTo 5 (some .int) 0 [(0, .ref 0), (1, .int v1), (2, .int v2), (3, .int v3), (4, .int v4)] [] M (fNN_replyTo v1 v2 v3 v4 M) := by
  rw [fNN_replyTo]
  refine v_iload_n (pc := 0) dX9_replyTo_0 rfl ?_
  refine v_iconst (pc := 1) 4 dX9_replyTo_1 (by decide) ?_
  refine v_icmp_ne (pc := 2) 15 dX9_replyTo_2 (by decide) ?_ ?_
  · refine v_iload_n (pc := 15) dX9_replyTo_15 rfl ?_
    refine v_iconst (pc := 16) 3 dX9_replyTo_16 (by decide) ?_
    refine v_icmp_ne (pc := 17) 40 dX9_replyTo_17 (by decide) ?_ ?_
    · refine v_iload_n (pc := 40) dX9_replyTo_40 rfl ?_
      refine v_callS (pc := 41) (As := [.int v1]) (cNN_isNamedKind l G v1 M) zc_X9_isNamedKind tw_641 (by decide) (Nat.le_of_ble_eq_true rfl) dX9_replyTo_41 (fun r2 M1 => ?_)
      refine v_if_eq (pc := 44) 63 dX9_replyTo_44 (by decide) ?_ ?_
      · refine v_iconst (pc := 63) (-1) dX9_replyTo_63 (by decide) ?_
        exact v_iret (pc := 64) dX9_replyTo_64
      · refine v_aload_n (pc := 47) dX9_replyTo_47 rfl ?_
        refine v_getR (pc := 48) (q := 2) zk9 lx_0 rfl rx_0_2 tw_433 dX9_replyTo_48 ?_
        refine v_iload_n (pc := 51) dX9_replyTo_51 rfl ?_
        refine v_callV (pc := 52) (As := [.int v1]) (cLabels_now l G v1 M1) zc_X1_now zk1 rfl lx_14 tw_644 (by decide) (Nat.le_of_ble_eq_true rfl) dX9_replyTo_52 (fun r4 M3 => ?_)
        refine v_ifP (fun hgr4 => ?_)
        have hr4 := zN_of hgr4
        refine v_iload_n (pc := 55) dX9_replyTo_55 rfl ?_
        refine v_iload_n (pc := 56) dX9_replyTo_56 rfl ?_
        refine v_callV (pc := 57) (As := [.int v2, .int v3]) (cNames_reply l G r4 hr4 v2 v3 M3) zc_X2_reply zk2 rfl hr4.1 tw_658 (by decide) (Nat.le_of_ble_eq_true rfl) dX9_replyTo_57 (fun r6 M5 => ?_)
        refine v_goto (pc := 60) 64 dX9_replyTo_60 (by decide) ?_
        exact v_iret (pc := 64) dX9_replyTo_64
    · refine v_aload_n (pc := 20) dX9_replyTo_20 rfl ?_
      refine v_getR (pc := 21) (q := 5) zk9 lx_0 rfl rx_0_5 tw_436 dX9_replyTo_21 ?_
      refine v_iload_n (pc := 24) dX9_replyTo_24 rfl ?_
      refine v_iload_n (pc := 25) dX9_replyTo_25 rfl ?_
      refine v_iload (pc := 26) dX9_replyTo_26 rfl ?_
      refine v_callV (pc := 28) (As := [.int v2, .int v3, .int v4]) (cCuts_parts l G v2 v3 v4 M) zc_X0_parts zk0 rfl lx_49 tw_680 (by decide) (Nat.le_of_ble_eq_true rfl) dX9_replyTo_28 (fun r8 M7 => ?_)
      refine v_if_eq (pc := 31) 38 dX9_replyTo_31 (by decide) ?_ ?_
      · refine v_iconst (pc := 38) 0 dX9_replyTo_38 (by decide) ?_
        exact v_iret (pc := 39) dX9_replyTo_39
      · refine v_iconst (pc := 34) 1 dX9_replyTo_34 (by decide) ?_
        refine v_goto (pc := 35) 39 dX9_replyTo_35 (by decide) ?_
        exact v_iret (pc := 39) dX9_replyTo_39
  · refine v_aload_n (pc := 5) dX9_replyTo_5 rfl ?_
    refine v_getR (pc := 6) (q := 4) zk9 lx_0 rfl rx_0_4 tw_435 dX9_replyTo_6 ?_
    refine v_iload_n (pc := 9) dX9_replyTo_9 rfl ?_
    refine v_iload_n (pc := 10) dX9_replyTo_10 rfl ?_
    refine v_callV (pc := 11) (As := [.int v2, .int v3]) (cParcels_step l G v2 v3 M) zc_X5_step zk5 rfl lx_48 tw_764 (by decide) (Nat.le_of_ble_eq_true rfl) dX9_replyTo_11 (fun r10 M9 => ?_)
    exact v_iret (pc := 14) dX9_replyTo_14
theorem cNN_replyTo (l : Launch) (G : zG) (v1 : Int32) (v2 : Int32) (v3 : Int32) (v4 : Int32) (M : zM) : zC eI l G zLX zRX 6 yX9_replyTo cX9_replyTo 5 (some .int) [.ref 0, .int v1, .int v2, .int v3, .int v4] M (fNN_replyTo v1 v2 v3 v4 M) := zC.of (by decide) (Nat.le_of_ble_eq_true rfl) (v_sub (wNN_replyTo l G v1 v2 v3 v4 M) rfl)
theorem dX9_read_0 : decode cX9_read 0 = .ok (.aload_n 0, 1) := by decide +kernel
theorem dX9_read_1 : decode cX9_read 1 = .ok (.getfield 69, 3) := by decide +kernel
theorem dX9_read_4 : decode cX9_read 4 = .ok (.invokevirtual 271, 3) := by decide +kernel
theorem dX9_read_7 : decode cX9_read 7 = .ok (.istore_n 1, 1) := by decide +kernel
theorem dX9_read_8 : decode cX9_read 8 = .ok (.iload_n 1, 1) := by decide +kernel
theorem dX9_read_9 : decode cX9_read 9 = .ok (.ifCond .eq 8, 3) := by decide +kernel
theorem dX9_read_12 : decode cX9_read 12 = .ok (.bipush (-10), 2) := by decide +kernel
theorem dX9_read_14 : decode cX9_read 14 = .ok (.iload_n 1, 1) := by decide +kernel
theorem dX9_read_15 : decode cX9_read 15 = .ok (.isub, 1) := by decide +kernel
theorem dX9_read_16 : decode cX9_read 16 = .ok (.ireturn, 1) := by decide +kernel
theorem dX9_read_17 : decode cX9_read 17 = .ok (.aload_n 0, 1) := by decide +kernel
theorem dX9_read_18 : decode cX9_read 18 = .ok (.getfield 69, 3) := by decide +kernel
theorem dX9_read_21 : decode cX9_read 21 = .ok (.aload_n 0, 1) := by decide +kernel
theorem dX9_read_22 : decode cX9_read 22 = .ok (.getfield 69, 3) := by decide +kernel
theorem dX9_read_25 : decode cX9_read 25 = .ok (.getfield 274, 3) := by decide +kernel
theorem dX9_read_28 : decode cX9_read 28 = .ok (.putfield 118, 3) := by decide +kernel
theorem dX9_read_31 : decode cX9_read 31 = .ok (.iconst 0, 1) := by decide +kernel
theorem dX9_read_32 : decode cX9_read 32 = .ok (.istore_n 2, 1) := by decide +kernel
theorem dX9_read_33 : decode cX9_read 33 = .ok (.iload_n 2, 1) := by decide +kernel
theorem dX9_read_34 : decode cX9_read 34 = .ok (.aload_n 0, 1) := by decide +kernel
theorem dX9_read_35 : decode cX9_read 35 = .ok (.getfield 69, 3) := by decide +kernel
theorem dX9_read_38 : decode cX9_read 38 = .ok (.getfield 274, 3) := by decide +kernel
theorem dX9_read_41 : decode cX9_read 41 = .ok (.if_icmp .ge 58, 3) := by decide +kernel
theorem dX9_read_44 : decode cX9_read 44 = .ok (.aload_n 0, 1) := by decide +kernel
theorem dX9_read_45 : decode cX9_read 45 = .ok (.getfield 69, 3) := by decide +kernel
theorem dX9_read_48 : decode cX9_read 48 = .ok (.getfield 277, 3) := by decide +kernel
theorem dX9_read_51 : decode cX9_read 51 = .ok (.iload_n 2, 1) := by decide +kernel
theorem dX9_read_52 : decode cX9_read 52 = .ok (.aload_n 0, 1) := by decide +kernel
theorem dX9_read_53 : decode cX9_read 53 = .ok (.aload_n 0, 1) := by decide +kernel
theorem dX9_read_54 : decode cX9_read 54 = .ok (.getfield 69, 3) := by decide +kernel
theorem dX9_read_57 : decode cX9_read 57 = .ok (.getfield 280, 3) := by decide +kernel
theorem dX9_read_60 : decode cX9_read 60 = .ok (.iload_n 2, 1) := by decide +kernel
theorem dX9_read_61 : decode cX9_read 61 = .ok (.iaload, 1) := by decide +kernel
theorem dX9_read_62 : decode cX9_read 62 = .ok (.aload_n 0, 1) := by decide +kernel
theorem dX9_read_63 : decode cX9_read 63 = .ok (.getfield 69, 3) := by decide +kernel
theorem dX9_read_66 : decode cX9_read 66 = .ok (.getfield 283, 3) := by decide +kernel
theorem dX9_read_69 : decode cX9_read 69 = .ok (.iload_n 2, 1) := by decide +kernel
theorem dX9_read_70 : decode cX9_read 70 = .ok (.iaload, 1) := by decide +kernel
theorem dX9_read_71 : decode cX9_read 71 = .ok (.aload_n 0, 1) := by decide +kernel
theorem dX9_read_72 : decode cX9_read 72 = .ok (.getfield 69, 3) := by decide +kernel
theorem dX9_read_75 : decode cX9_read 75 = .ok (.getfield 286, 3) := by decide +kernel
theorem dX9_read_78 : decode cX9_read 78 = .ok (.iload_n 2, 1) := by decide +kernel
theorem dX9_read_79 : decode cX9_read 79 = .ok (.iaload, 1) := by decide +kernel
theorem dX9_read_80 : decode cX9_read 80 = .ok (.aload_n 0, 1) := by decide +kernel
theorem dX9_read_81 : decode cX9_read 81 = .ok (.getfield 69, 3) := by decide +kernel
theorem dX9_read_84 : decode cX9_read 84 = .ok (.getfield 289, 3) := by decide +kernel
theorem dX9_read_87 : decode cX9_read 87 = .ok (.iload_n 2, 1) := by decide +kernel
theorem dX9_read_88 : decode cX9_read 88 = .ok (.iaload, 1) := by decide +kernel
theorem dX9_read_89 : decode cX9_read 89 = .ok (.invokevirtual 292, 3) := by decide +kernel
theorem dX9_read_92 : decode cX9_read 92 = .ok (.iastore, 1) := by decide +kernel
theorem dX9_read_93 : decode cX9_read 93 = .ok (.iinc 2 1, 3) := by decide +kernel
theorem dX9_read_96 : decode cX9_read 96 = .ok (.goto (-63), 3) := by decide +kernel
theorem dX9_read_99 : decode cX9_read 99 = .ok (.aload_n 0, 1) := by decide +kernel
theorem dX9_read_100 : decode cX9_read 100 = .ok (.getfield 69, 3) := by decide +kernel
theorem dX9_read_103 : decode cX9_read 103 = .ok (.getfield 118, 3) := by decide +kernel
theorem dX9_read_106 : decode cX9_read 106 = .ok (.ireturn, 1) := by decide +kernel
theorem wNN_read_33 (l : Launch) (G : zG) : ∀ (fuel : Nat) (v2 : Int32) (M : zM), zV eI l G zLX zRX 10 yX9_read cX9_read 3 (some .int) 33 [(0, .ref 0), (2, .int v2)] [] M (fNN_read_33 fuel v2 M) := by
  intro fuel
  induction fuel with
  | zero => intro v2 M; exact v_none
  | succ fuel ih =>
    intro v2 M
    rw [fNN_read_33]
    refine v_iload_n (pc := 33) dX9_read_33 rfl ?_
    refine v_aload_n (pc := 34) dX9_read_34 rfl ?_
    refine v_getR (pc := 35) (q := 7) zk9 lx_0 rfl rx_0_7 tw_438 dX9_read_35 ?_
    refine v_getI (pc := 38) (q := 6) zk6 lx_56 rfl tw_390 dX9_read_38 ?_
    refine v_icmp_ge (pc := 41) 99 dX9_read_41 (by decide) ?_ ?_
    · refine v_aload_n (pc := 99) dX9_read_99 rfl ?_
      refine v_getR (pc := 100) (q := 7) zk9 lx_0 rfl rx_0_7 tw_438 dX9_read_100 ?_
      refine v_getI (pc := 103) (q := 11) zk6 lx_56 rfl tw_400 dX9_read_103 ?_
      exact v_iret (pc := 106) dX9_read_106
    · refine v_aload_n (pc := 44) dX9_read_44 rfl ?_
      refine v_getR (pc := 45) (q := 7) zk9 lx_0 rfl rx_0_7 tw_438 dX9_read_45 ?_
      refine v_getR (pc := 48) (q := 12) zk6 lx_56 rfl rx_56_12 tw_402 dX9_read_48 ?_
      refine v_iload_n (pc := 51) dX9_read_51 rfl ?_
      refine v_aload_n (pc := 52) dX9_read_52 rfl ?_
      refine v_aload_n (pc := 53) dX9_read_53 rfl ?_
      refine v_getR (pc := 54) (q := 7) zk9 lx_0 rfl rx_0_7 tw_438 dX9_read_54 ?_
      refine v_getR (pc := 57) (q := 7) zk6 lx_56 rfl rx_56_7 tw_392 dX9_read_57 ?_
      refine v_iload_n (pc := 60) dX9_read_60 rfl ?_
      refine v_iald (pc := 61) lx_58 dX9_read_61 (fun x1 => ?_)
      refine v_aload_n (pc := 62) dX9_read_62 rfl ?_
      refine v_getR (pc := 63) (q := 7) zk9 lx_0 rfl rx_0_7 tw_438 dX9_read_63 ?_
      refine v_getR (pc := 66) (q := 8) zk6 lx_56 rfl rx_56_8 tw_394 dX9_read_66 ?_
      refine v_iload_n (pc := 69) dX9_read_69 rfl ?_
      refine v_iald (pc := 70) lx_59 dX9_read_70 (fun x2 => ?_)
      refine v_aload_n (pc := 71) dX9_read_71 rfl ?_
      refine v_getR (pc := 72) (q := 7) zk9 lx_0 rfl rx_0_7 tw_438 dX9_read_72 ?_
      refine v_getR (pc := 75) (q := 9) zk6 lx_56 rfl rx_56_9 tw_396 dX9_read_75 ?_
      refine v_iload_n (pc := 78) dX9_read_78 rfl ?_
      refine v_iald (pc := 79) lx_60 dX9_read_79 (fun x3 => ?_)
      refine v_aload_n (pc := 80) dX9_read_80 rfl ?_
      refine v_getR (pc := 81) (q := 7) zk9 lx_0 rfl rx_0_7 tw_438 dX9_read_81 ?_
      refine v_getR (pc := 84) (q := 10) zk6 lx_56 rfl rx_56_10 tw_398 dX9_read_84 ?_
      refine v_iload_n (pc := 87) dX9_read_87 rfl ?_
      refine v_iald (pc := 88) lx_61 dX9_read_88 (fun x4 => ?_)
      refine v_callV (pc := 89) (As := [.int x1, .int x2, .int x3, .int x4]) (cNN_replyTo l G x1 x2 x3 x4 M) zc_X9_replyTo zk9 rfl lx_0 tw_1008 (by decide) (Nat.le_of_ble_eq_true rfl) dX9_read_89 (fun r6 M5 => ?_)
      refine v_iast (pc := 92) lx_62 dX9_read_92 (fun M7 => ?_)
      refine v_iinc (pc := 93) 1 dX9_read_93 rfl (by decide) (by decide) ?_
      refine v_goto (pc := 96) 33 dX9_read_96 (by decide) ?_
      exact v_sub (ih (v2 + 1) M7) rfl
theorem wNN_read (l : Launch) (G : zG)  (M : zM) : zV eI l G zLX zRX 10 yX9_read cX9_read 3 (some .int) 0 [(0, .ref 0)] [] M (fNN_read  M) := by
  rw [fNN_read]
  refine v_aload_n (pc := 0) dX9_read_0 rfl ?_
  refine v_getR (pc := 1) (q := 7) zk9 lx_0 rfl rx_0_7 tw_438 dX9_read_1 ?_
  refine v_callV (pc := 4) (As := []) (cScript_readAll l G  M) zc_X6_readAll zk6 rfl lx_56 tw_906 (by decide) (Nat.le_of_ble_eq_true rfl) dX9_read_4 (fun r2 M1 => ?_)
  refine v_istore_n (pc := 7) dX9_read_7 (by decide) ?_
  refine v_iload_n (pc := 8) dX9_read_8 rfl ?_
  refine v_if_eq (pc := 9) 17 dX9_read_9 (by decide) ?_ ?_
  · refine v_aload_n (pc := 17) dX9_read_17 rfl ?_
    refine v_getR (pc := 18) (q := 7) zk9 lx_0 rfl rx_0_7 tw_438 dX9_read_18 ?_
    refine v_aload_n (pc := 21) dX9_read_21 rfl ?_
    refine v_getR (pc := 22) (q := 7) zk9 lx_0 rfl rx_0_7 tw_438 dX9_read_22 ?_
    refine v_getI (pc := 25) (q := 6) zk6 lx_56 rfl tw_390 dX9_read_25 ?_
    refine v_putI (pc := 28) (q := 11) zk6 lx_56 rfl tw_400 rfl rfl rfl dX9_read_28 (fun M3 => ?_)
    refine v_iconst (pc := 31) 0 dX9_read_31 (by decide) ?_
    refine v_istore_n (pc := 32) dX9_read_32 (by decide) ?_
    exact v_sub (wNN_read_33 l G FU 0 M3) rfl
  · refine v_bipush (pc := 12) (-10) dX9_read_12 (by decide) ?_
    refine v_iload_n (pc := 14) dX9_read_14 rfl ?_
    refine v_isub (pc := 15) dX9_read_15 ?_
    exact v_iret (pc := 16) dX9_read_16
theorem cNN_read (l : Launch) (G : zG)  (M : zM) : zC eI l G zLX zRX 10 yX9_read cX9_read 3 (some .int) [.ref 0] M (fNN_read  M) := zC.of (by decide) (Nat.le_of_ble_eq_true rfl) (v_sub (wNN_read l G  M) rfl)
theorem dX9_fault_0 : decode cX9_fault 0 = .ok (.aload_n 0, 1) := by decide +kernel
theorem dX9_fault_1 : decode cX9_fault 1 = .ok (.getfield 69, 3) := by decide +kernel
theorem dX9_fault_4 : decode cX9_fault 4 = .ok (.getfield 296, 3) := by decide +kernel
theorem dX9_fault_7 : decode cX9_fault 7 = .ok (.ireturn, 1) := by decide +kernel
theorem wNN_fault (l : Launch) (G : zG)  (M : zM) : zV eI l G zLX zRX 1 yX9_fault cX9_fault 1 (some .int) 0 [(0, .ref 0)] [] M (fNN_fault  M) := by
  rw [fNN_fault]
  refine v_aload_n (pc := 0) dX9_fault_0 rfl ?_
  refine v_getR (pc := 1) (q := 7) zk9 lx_0 rfl rx_0_7 tw_438 dX9_fault_1 ?_
  refine v_getI (pc := 4) (q := 3) zk6 lx_56 rfl tw_386 dX9_fault_4 ?_
  exact v_iret (pc := 7) dX9_fault_7
theorem cNN_fault (l : Launch) (G : zG)  (M : zM) : zC eI l G zLX zRX 1 yX9_fault cX9_fault 1 (some .int) [.ref 0] M (fNN_fault  M) := zC.of (by decide) (Nat.le_of_ble_eq_true rfl) (v_sub (wNN_fault l G  M) rfl)
theorem dX9_said_0 : decode cX9_said 0 = .ok (.iload_n 1, 1) := by decide +kernel
theorem dX9_said_1 : decode cX9_said 1 = .ok (.ifCond .lt 14, 3) := by decide +kernel
theorem dX9_said_4 : decode cX9_said 4 = .ok (.iload_n 1, 1) := by decide +kernel
theorem dX9_said_5 : decode cX9_said 5 = .ok (.aload_n 0, 1) := by decide +kernel
theorem dX9_said_6 : decode cX9_said 6 = .ok (.getfield 69, 3) := by decide +kernel
theorem dX9_said_9 : decode cX9_said 9 = .ok (.getfield 118, 3) := by decide +kernel
theorem dX9_said_12 : decode cX9_said 12 = .ok (.if_icmp .lt 9, 3) := by decide +kernel
theorem dX9_said_15 : decode cX9_said 15 = .ok (.sipush (-1001), 3) := by decide +kernel
theorem dX9_said_18 : decode cX9_said 18 = .ok (.goto 12, 3) := by decide +kernel
theorem dX9_said_21 : decode cX9_said 21 = .ok (.aload_n 0, 1) := by decide +kernel
theorem dX9_said_22 : decode cX9_said 22 = .ok (.getfield 69, 3) := by decide +kernel
theorem dX9_said_25 : decode cX9_said 25 = .ok (.getfield 277, 3) := by decide +kernel
theorem dX9_said_28 : decode cX9_said 28 = .ok (.iload_n 1, 1) := by decide +kernel
theorem dX9_said_29 : decode cX9_said 29 = .ok (.iaload, 1) := by decide +kernel
theorem dX9_said_30 : decode cX9_said 30 = .ok (.ireturn, 1) := by decide +kernel
theorem wNN_said (l : Launch) (G : zG) (v1 : Int32) (M : zM) : zV eI l G zLX zRX 1 yX9_said cX9_said 2 (some .int) 0 [(0, .ref 0), (1, .int v1)] [] M (fNN_said v1 M) := by
  rw [fNN_said]
  refine v_iload_n (pc := 0) dX9_said_0 rfl ?_
  refine v_if_lt (pc := 1) 15 dX9_said_1 (by decide) ?_ ?_
  · refine v_sipush (pc := 15) (-1001) dX9_said_15 (by decide) ?_
    refine v_goto (pc := 18) 30 dX9_said_18 (by decide) ?_
    exact v_iret (pc := 30) dX9_said_30
  · refine v_iload_n (pc := 4) dX9_said_4 rfl ?_
    refine v_aload_n (pc := 5) dX9_said_5 rfl ?_
    refine v_getR (pc := 6) (q := 7) zk9 lx_0 rfl rx_0_7 tw_438 dX9_said_6 ?_
    refine v_getI (pc := 9) (q := 11) zk6 lx_56 rfl tw_400 dX9_said_9 ?_
    refine v_icmp_lt (pc := 12) 21 dX9_said_12 (by decide) ?_ ?_
    · refine v_aload_n (pc := 21) dX9_said_21 rfl ?_
      refine v_getR (pc := 22) (q := 7) zk9 lx_0 rfl rx_0_7 tw_438 dX9_said_22 ?_
      refine v_getR (pc := 25) (q := 12) zk6 lx_56 rfl rx_56_12 tw_402 dX9_said_25 ?_
      refine v_iload_n (pc := 28) dX9_said_28 rfl ?_
      refine v_iald (pc := 29) lx_62 dX9_said_29 (fun x1 => ?_)
      exact v_iret (pc := 30) dX9_said_30
    · refine v_sipush (pc := 15) (-1001) dX9_said_15 (by decide) ?_
      refine v_goto (pc := 18) 30 dX9_said_18 (by decide) ?_
      exact v_iret (pc := 30) dX9_said_30
theorem cNN_said (l : Launch) (G : zG) (v1 : Int32) (M : zM) : zC eI l G zLX zRX 1 yX9_said cX9_said 2 (some .int) [.ref 0, .int v1] M (fNN_said v1 M) := zC.of (by decide) (Nat.le_of_ble_eq_true rfl) (v_sub (wNN_said l G v1 M) rfl)
