theorem dX3_joins_0 : decode cX3_joins 0 = .ok (.aload_n 0, 1) := by decide +kernel
theorem dX3_joins_1 : decode cX3_joins 1 = .ok (.getfield 28, 3) := by decide +kernel
theorem dX3_joins_4 : decode cX3_joins 4 = .ok (.iload_n 1, 1) := by decide +kernel
theorem dX3_joins_5 : decode cX3_joins 5 = .ok (.iaload, 1) := by decide +kernel
theorem dX3_joins_6 : decode cX3_joins 6 = .ok (.iload_n 2, 1) := by decide +kernel
theorem dX3_joins_7 : decode cX3_joins 7 = .ok (.ishr, 1) := by decide +kernel
theorem dX3_joins_8 : decode cX3_joins 8 = .ok (.iconst 1, 1) := by decide +kernel
theorem dX3_joins_9 : decode cX3_joins 9 = .ok (.iand, 1) := by decide +kernel
theorem dX3_joins_10 : decode cX3_joins 10 = .ok (.iconst 1, 1) := by decide +kernel
theorem dX3_joins_11 : decode cX3_joins 11 = .ok (.if_icmp .ne 7, 3) := by decide +kernel
theorem dX3_joins_14 : decode cX3_joins 14 = .ok (.iconst 1, 1) := by decide +kernel
theorem dX3_joins_15 : decode cX3_joins 15 = .ok (.goto 4, 3) := by decide +kernel
theorem dX3_joins_18 : decode cX3_joins 18 = .ok (.iconst 0, 1) := by decide +kernel
theorem dX3_joins_19 : decode cX3_joins 19 = .ok (.ireturn, 1) := by decide +kernel
theorem wNet_joins (l : Launch) (G : zG) (v1 : Int32) (v2 : Int32) (M : zM) : zV eI l G zLX zRX 1 yX3_joins cX3_joins 3 (some .boolean) 0 [(0, .ref 1), (1, .int v1), (2, .int v2)] [] M (fNet_joins v1 v2 M) := by
  rw [fNet_joins]
  refine v_aload_n (pc := 0) dX3_joins_0 rfl ?_
  refine v_getR (pc := 1) (q := 5) zk3 lx_1 rfl rx_1_5 tw_137 dX3_joins_1 ?_
  refine v_iload_n (pc := 4) dX3_joins_4 rfl ?_
  refine v_iald (pc := 5) lx_4 dX3_joins_5 (fun x1 => ?_)
  refine v_iload_n (pc := 6) dX3_joins_6 rfl ?_
  refine v_ishr (pc := 7) dX3_joins_7 ?_
  refine v_iconst (pc := 8) 1 dX3_joins_8 (by decide) ?_
  refine v_iand (pc := 9) dX3_joins_9 ?_
  refine v_iconst (pc := 10) 1 dX3_joins_10 (by decide) ?_
  refine v_icmp_ne (pc := 11) 18 dX3_joins_11 (by decide) ?_ ?_
  · refine v_iconst (pc := 18) 0 dX3_joins_18 (by decide) ?_
    exact v_zret (pc := 19) dX3_joins_19
  · refine v_iconst (pc := 14) 1 dX3_joins_14 (by decide) ?_
    refine v_goto (pc := 15) 19 dX3_joins_15 (by decide) ?_
    exact v_zret (pc := 19) dX3_joins_19
theorem cNet_joins (l : Launch) (G : zG) (v1 : Int32) (v2 : Int32) (M : zM) : zC eI l G zLX zRX 1 yX3_joins cX3_joins 3 (some .boolean) [.ref 1, .int v1, .int v2] M (fNet_joins v1 v2 M) := zC.of (by decide) (Nat.le_of_ble_eq_true rfl) (v_sub (wNet_joins l G v1 v2 M) rfl)
theorem dX3_lineBetween_0 : decode cX3_lineBetween 0 = .ok (.iconst 0, 1) := by decide +kernel
theorem dX3_lineBetween_1 : decode cX3_lineBetween 1 = .ok (.istore_n 3, 1) := by decide +kernel
theorem dX3_lineBetween_2 : decode cX3_lineBetween 2 = .ok (.iload_n 3, 1) := by decide +kernel
theorem dX3_lineBetween_3 : decode cX3_lineBetween 3 = .ok (.aload_n 0, 1) := by decide +kernel
theorem dX3_lineBetween_4 : decode cX3_lineBetween 4 = .ok (.getfield 15, 3) := by decide +kernel
theorem dX3_lineBetween_7 : decode cX3_lineBetween 7 = .ok (.if_icmp .ge 51, 3) := by decide +kernel
theorem dX3_lineBetween_10 : decode cX3_lineBetween 10 = .ok (.aload_n 0, 1) := by decide +kernel
theorem dX3_lineBetween_11 : decode cX3_lineBetween 11 = .ok (.getfield 21, 3) := by decide +kernel
theorem dX3_lineBetween_14 : decode cX3_lineBetween 14 = .ok (.iload_n 3, 1) := by decide +kernel
theorem dX3_lineBetween_15 : decode cX3_lineBetween 15 = .ok (.iaload, 1) := by decide +kernel
theorem dX3_lineBetween_16 : decode cX3_lineBetween 16 = .ok (.iload_n 1, 1) := by decide +kernel
theorem dX3_lineBetween_17 : decode cX3_lineBetween 17 = .ok (.if_icmp .ne 13, 3) := by decide +kernel
theorem dX3_lineBetween_20 : decode cX3_lineBetween 20 = .ok (.aload_n 0, 1) := by decide +kernel
theorem dX3_lineBetween_21 : decode cX3_lineBetween 21 = .ok (.getfield 25, 3) := by decide +kernel
theorem dX3_lineBetween_24 : decode cX3_lineBetween 24 = .ok (.iload_n 3, 1) := by decide +kernel
theorem dX3_lineBetween_25 : decode cX3_lineBetween 25 = .ok (.iaload, 1) := by decide +kernel
theorem dX3_lineBetween_26 : decode cX3_lineBetween 26 = .ok (.iload_n 2, 1) := by decide +kernel
theorem dX3_lineBetween_27 : decode cX3_lineBetween 27 = .ok (.if_icmp .eq 23, 3) := by decide +kernel
theorem dX3_lineBetween_30 : decode cX3_lineBetween 30 = .ok (.aload_n 0, 1) := by decide +kernel
theorem dX3_lineBetween_31 : decode cX3_lineBetween 31 = .ok (.getfield 21, 3) := by decide +kernel
theorem dX3_lineBetween_34 : decode cX3_lineBetween 34 = .ok (.iload_n 3, 1) := by decide +kernel
theorem dX3_lineBetween_35 : decode cX3_lineBetween 35 = .ok (.iaload, 1) := by decide +kernel
theorem dX3_lineBetween_36 : decode cX3_lineBetween 36 = .ok (.iload_n 2, 1) := by decide +kernel
theorem dX3_lineBetween_37 : decode cX3_lineBetween 37 = .ok (.if_icmp .ne 15, 3) := by decide +kernel
theorem dX3_lineBetween_40 : decode cX3_lineBetween 40 = .ok (.aload_n 0, 1) := by decide +kernel
theorem dX3_lineBetween_41 : decode cX3_lineBetween 41 = .ok (.getfield 25, 3) := by decide +kernel
theorem dX3_lineBetween_44 : decode cX3_lineBetween 44 = .ok (.iload_n 3, 1) := by decide +kernel
theorem dX3_lineBetween_45 : decode cX3_lineBetween 45 = .ok (.iaload, 1) := by decide +kernel
theorem dX3_lineBetween_46 : decode cX3_lineBetween 46 = .ok (.iload_n 1, 1) := by decide +kernel
theorem dX3_lineBetween_47 : decode cX3_lineBetween 47 = .ok (.if_icmp .ne 5, 3) := by decide +kernel
theorem dX3_lineBetween_50 : decode cX3_lineBetween 50 = .ok (.iload_n 3, 1) := by decide +kernel
theorem dX3_lineBetween_51 : decode cX3_lineBetween 51 = .ok (.ireturn, 1) := by decide +kernel
theorem dX3_lineBetween_52 : decode cX3_lineBetween 52 = .ok (.iinc 3 1, 3) := by decide +kernel
theorem dX3_lineBetween_55 : decode cX3_lineBetween 55 = .ok (.goto (-53), 3) := by decide +kernel
theorem dX3_lineBetween_58 : decode cX3_lineBetween 58 = .ok (.iconst (-1), 1) := by decide +kernel
theorem dX3_lineBetween_59 : decode cX3_lineBetween 59 = .ok (.ireturn, 1) := by decide +kernel
theorem wNet_lineBetween_30 (l : Launch) (G : zG) (k2 : Int32 → Int32 → Int32 → zM → Option (Int32 × zM)) (hk2 : ∀ (v1 : Int32) (v2 : Int32) (v3 : Int32) (M : zM), zV eI l G zLX zRX 1 yX3_lineBetween cX3_lineBetween 4 (some .int) 2 [(0, .ref 1), (1, .int v1), (2, .int v2), (3, .int v3)] [] M (k2 v1 v2 v3 M)) (v1 : Int32) (v2 : Int32) (v3 : Int32) (M : zM) : zV eI l G zLX zRX 1 yX3_lineBetween cX3_lineBetween 4 (some .int) 30 [(0, .ref 1), (1, .int v1), (2, .int v2), (3, .int v3)] [] M (fNet_lineBetween_30 k2 v1 v2 v3 M) := by
  rw [fNet_lineBetween_30]
  refine v_aload_n (pc := 30) dX3_lineBetween_30 rfl ?_
  refine v_getR (pc := 31) (q := 3) zk3 lx_1 rfl rx_1_3 tw_129 dX3_lineBetween_31 ?_
  refine v_iload_n (pc := 34) dX3_lineBetween_34 rfl ?_
  refine v_iald (pc := 35) lx_2 dX3_lineBetween_35 (fun x1 => ?_)
  refine v_iload_n (pc := 36) dX3_lineBetween_36 rfl ?_
  refine v_icmp_ne (pc := 37) 52 dX3_lineBetween_37 (by decide) ?_ ?_
  · refine v_iinc (pc := 52) 1 dX3_lineBetween_52 rfl (by decide) (by decide) ?_
    refine v_goto (pc := 55) 2 dX3_lineBetween_55 (by decide) ?_
    exact v_sub (hk2 v1 v2 (v3 + 1) M) rfl
  · refine v_aload_n (pc := 40) dX3_lineBetween_40 rfl ?_
    refine v_getR (pc := 41) (q := 4) zk3 lx_1 rfl rx_1_4 tw_133 dX3_lineBetween_41 ?_
    refine v_iload_n (pc := 44) dX3_lineBetween_44 rfl ?_
    refine v_iald (pc := 45) lx_3 dX3_lineBetween_45 (fun x2 => ?_)
    refine v_iload_n (pc := 46) dX3_lineBetween_46 rfl ?_
    refine v_icmp_ne (pc := 47) 52 dX3_lineBetween_47 (by decide) ?_ ?_
    · refine v_iinc (pc := 52) 1 dX3_lineBetween_52 rfl (by decide) (by decide) ?_
      refine v_goto (pc := 55) 2 dX3_lineBetween_55 (by decide) ?_
      exact v_sub (hk2 v1 v2 (v3 + 1) M) rfl
    · refine v_iload_n (pc := 50) dX3_lineBetween_50 rfl ?_
      exact v_iret (pc := 51) dX3_lineBetween_51
theorem wNet_lineBetween_2 (l : Launch) (G : zG) : ∀ (fuel : Nat) (v1 : Int32) (v2 : Int32) (v3 : Int32) (M : zM), zV eI l G zLX zRX 1 yX3_lineBetween cX3_lineBetween 4 (some .int) 2 [(0, .ref 1), (1, .int v1), (2, .int v2), (3, .int v3)] [] M (fNet_lineBetween_2 fuel v1 v2 v3 M) := by
  intro fuel
  induction fuel with
  | zero => intro v1 v2 v3 M; exact v_none
  | succ fuel ih =>
    intro v1 v2 v3 M
    rw [fNet_lineBetween_2]
    refine v_iload_n (pc := 2) dX3_lineBetween_2 rfl ?_
    refine v_aload_n (pc := 3) dX3_lineBetween_3 rfl ?_
    refine v_getI (pc := 4) (q := 1) zk3 lx_1 rfl tw_120 dX3_lineBetween_4 ?_
    refine v_icmp_ge (pc := 7) 58 dX3_lineBetween_7 (by decide) ?_ ?_
    · refine v_iconst (pc := 58) (-1) dX3_lineBetween_58 (by decide) ?_
      exact v_iret (pc := 59) dX3_lineBetween_59
    · refine v_aload_n (pc := 10) dX3_lineBetween_10 rfl ?_
      refine v_getR (pc := 11) (q := 3) zk3 lx_1 rfl rx_1_3 tw_129 dX3_lineBetween_11 ?_
      refine v_iload_n (pc := 14) dX3_lineBetween_14 rfl ?_
      refine v_iald (pc := 15) lx_2 dX3_lineBetween_15 (fun x1 => ?_)
      refine v_iload_n (pc := 16) dX3_lineBetween_16 rfl ?_
      refine v_icmp_ne (pc := 17) 30 dX3_lineBetween_17 (by decide) ?_ ?_
      · exact v_sub (wNet_lineBetween_30 l G (fNet_lineBetween_2 fuel) ih v1 v2 v3 M) rfl
      · refine v_aload_n (pc := 20) dX3_lineBetween_20 rfl ?_
        refine v_getR (pc := 21) (q := 4) zk3 lx_1 rfl rx_1_4 tw_133 dX3_lineBetween_21 ?_
        refine v_iload_n (pc := 24) dX3_lineBetween_24 rfl ?_
        refine v_iald (pc := 25) lx_3 dX3_lineBetween_25 (fun x2 => ?_)
        refine v_iload_n (pc := 26) dX3_lineBetween_26 rfl ?_
        refine v_icmp_eq (pc := 27) 50 dX3_lineBetween_27 (by decide) ?_ ?_
        · refine v_iload_n (pc := 50) dX3_lineBetween_50 rfl ?_
          exact v_iret (pc := 51) dX3_lineBetween_51
        · exact v_sub (wNet_lineBetween_30 l G (fNet_lineBetween_2 fuel) ih v1 v2 v3 M) rfl
theorem wNet_lineBetween (l : Launch) (G : zG) (v1 : Int32) (v2 : Int32) (M : zM) : zV eI l G zLX zRX 1 yX3_lineBetween cX3_lineBetween 4 (some .int) 0 [(0, .ref 1), (1, .int v1), (2, .int v2)] [] M (fNet_lineBetween v1 v2 M) := by
  rw [fNet_lineBetween]
  refine v_iconst (pc := 0) 0 dX3_lineBetween_0 (by decide) ?_
  refine v_istore_n (pc := 1) dX3_lineBetween_1 (by decide) ?_
  exact v_sub (wNet_lineBetween_2 l G FU v1 v2 0 M) rfl
theorem cNet_lineBetween (l : Launch) (G : zG) (v1 : Int32) (v2 : Int32) (M : zM) : zC eI l G zLX zRX 1 yX3_lineBetween cX3_lineBetween 4 (some .int) [.ref 1, .int v1, .int v2] M (fNet_lineBetween v1 v2 M) := zC.of (by decide) (Nat.le_of_ble_eq_true rfl) (v_sub (wNet_lineBetween l G v1 v2 M) rfl)
theorem dX3_degree_0 : decode cX3_degree 0 = .ok (.aload_n 0, 1) := by decide +kernel
theorem dX3_degree_1 : decode cX3_degree 1 = .ok (.getfield 28, 3) := by decide +kernel
theorem dX3_degree_4 : decode cX3_degree 4 = .ok (.iload_n 1, 1) := by decide +kernel
theorem dX3_degree_5 : decode cX3_degree 5 = .ok (.iaload, 1) := by decide +kernel
theorem dX3_degree_6 : decode cX3_degree 6 = .ok (.invokestatic 35, 3) := by decide +kernel
theorem dX3_degree_9 : decode cX3_degree 9 = .ok (.ireturn, 1) := by decide +kernel
theorem wNet_degree (l : Launch) (G : zG) (v1 : Int32) (M : zM) : zV eI l G zLX zRX 2 yX3_degree cX3_degree 2 (some .int) 0 [(0, .ref 1), (1, .int v1)] [] M (fNet_degree v1 M) := by
  rw [fNet_degree]
  refine v_aload_n (pc := 0) dX3_degree_0 rfl ?_
  refine v_getR (pc := 1) (q := 5) zk3 lx_1 rfl rx_1_5 tw_137 dX3_degree_1 ?_
  refine v_iload_n (pc := 4) dX3_degree_4 rfl ?_
  refine v_iald (pc := 5) lx_4 dX3_degree_5 (fun x1 => ?_)
  refine v_callS (pc := 6) (As := [.int x1]) (cJ6_bitCount l G x1 M) zc_J6_bitCount_0f7a4 tw_553 (by decide) (Nat.le_of_ble_eq_true rfl) dX3_degree_6 (fun r3 M2 => ?_)
  exact v_iret (pc := 9) dX3_degree_9
theorem cNet_degree (l : Launch) (G : zG) (v1 : Int32) (M : zM) : zC eI l G zLX zRX 2 yX3_degree cX3_degree 2 (some .int) [.ref 1, .int v1] M (fNet_degree v1 M) := zC.of (by decide) (Nat.le_of_ble_eq_true rfl) (v_sub (wNet_degree l G v1 M) rfl)
theorem dX3_hasPost_0 : decode cX3_hasPost 0 = .ok (.iload_n 1, 1) := by decide +kernel
theorem dX3_hasPost_1 : decode cX3_hasPost 1 = .ok (.ifCond .lt 15, 3) := by decide +kernel
theorem dX3_hasPost_4 : decode cX3_hasPost 4 = .ok (.iload_n 1, 1) := by decide +kernel
theorem dX3_hasPost_5 : decode cX3_hasPost 5 = .ok (.aload_n 0, 1) := by decide +kernel
theorem dX3_hasPost_6 : decode cX3_hasPost 6 = .ok (.getfield 9, 3) := by decide +kernel
theorem dX3_hasPost_9 : decode cX3_hasPost 9 = .ok (.if_icmp .ge 7, 3) := by decide +kernel
theorem dX3_hasPost_12 : decode cX3_hasPost 12 = .ok (.iconst 1, 1) := by decide +kernel
theorem dX3_hasPost_13 : decode cX3_hasPost 13 = .ok (.goto 4, 3) := by decide +kernel
theorem dX3_hasPost_16 : decode cX3_hasPost 16 = .ok (.iconst 0, 1) := by decide +kernel
theorem dX3_hasPost_17 : decode cX3_hasPost 17 = .ok (.ireturn, 1) := by decide +kernel
theorem wNet_hasPost (l : Launch) (G : zG) (v1 : Int32) (M : zM) : zV eI l G zLX zRX 1 yX3_hasPost cX3_hasPost 2 (some .boolean) 0 [(0, .ref 1), (1, .int v1)] [] M (fNet_hasPost v1 M) := by
  rw [fNet_hasPost]
  refine v_iload_n (pc := 0) dX3_hasPost_0 rfl ?_
  refine v_if_lt (pc := 1) 16 dX3_hasPost_1 (by decide) ?_ ?_
  · refine v_iconst (pc := 16) 0 dX3_hasPost_16 (by decide) ?_
    exact v_zret (pc := 17) dX3_hasPost_17
  · refine v_iload_n (pc := 4) dX3_hasPost_4 rfl ?_
    refine v_aload_n (pc := 5) dX3_hasPost_5 rfl ?_
    refine v_getI (pc := 6) (q := 0) zk3 lx_1 rfl tw_114 dX3_hasPost_6 ?_
    refine v_icmp_ge (pc := 9) 16 dX3_hasPost_9 (by decide) ?_ ?_
    · refine v_iconst (pc := 16) 0 dX3_hasPost_16 (by decide) ?_
      exact v_zret (pc := 17) dX3_hasPost_17
    · refine v_iconst (pc := 12) 1 dX3_hasPost_12 (by decide) ?_
      refine v_goto (pc := 13) 17 dX3_hasPost_13 (by decide) ?_
      exact v_zret (pc := 17) dX3_hasPost_17
theorem cNet_hasPost (l : Launch) (G : zG) (v1 : Int32) (M : zM) : zC eI l G zLX zRX 1 yX3_hasPost cX3_hasPost 2 (some .boolean) [.ref 1, .int v1] M (fNet_hasPost v1 M) := zC.of (by decide) (Nat.le_of_ble_eq_true rfl) (v_sub (wNet_hasPost l G v1 M) rfl)
theorem dX3_hasPosts_0 : decode cX3_hasPosts 0 = .ok (.aload_n 0, 1) := by decide +kernel
theorem dX3_hasPosts_1 : decode cX3_hasPosts 1 = .ok (.iload_n 1, 1) := by decide +kernel
theorem dX3_hasPosts_2 : decode cX3_hasPosts 2 = .ok (.invokevirtual 31, 3) := by decide +kernel
theorem dX3_hasPosts_5 : decode cX3_hasPosts 5 = .ok (.ifCond .eq 15, 3) := by decide +kernel
theorem dX3_hasPosts_8 : decode cX3_hasPosts 8 = .ok (.aload_n 0, 1) := by decide +kernel
theorem dX3_hasPosts_9 : decode cX3_hasPosts 9 = .ok (.iload_n 2, 1) := by decide +kernel
theorem dX3_hasPosts_10 : decode cX3_hasPosts 10 = .ok (.invokevirtual 31, 3) := by decide +kernel
theorem dX3_hasPosts_13 : decode cX3_hasPosts 13 = .ok (.ifCond .eq 7, 3) := by decide +kernel
theorem dX3_hasPosts_16 : decode cX3_hasPosts 16 = .ok (.iconst 1, 1) := by decide +kernel
theorem dX3_hasPosts_17 : decode cX3_hasPosts 17 = .ok (.goto 4, 3) := by decide +kernel
theorem dX3_hasPosts_20 : decode cX3_hasPosts 20 = .ok (.iconst 0, 1) := by decide +kernel
theorem dX3_hasPosts_21 : decode cX3_hasPosts 21 = .ok (.ireturn, 1) := by decide +kernel
theorem wNet_hasPosts (l : Launch) (G : zG) (v1 : Int32) (v2 : Int32) (M : zM) : zV eI l G zLX zRX 2 yX3_hasPosts cX3_hasPosts 3 (some .boolean) 0 [(0, .ref 1), (1, .int v1), (2, .int v2)] [] M (fNet_hasPosts v1 v2 M) := by
  rw [fNet_hasPosts]
  refine v_aload_n (pc := 0) dX3_hasPosts_0 rfl ?_
  refine v_iload_n (pc := 1) dX3_hasPosts_1 rfl ?_
  refine v_callV (pc := 2) (As := [.int v1]) (cNet_hasPost l G v1 M) zc_X3_hasPost zk3 rfl lx_1 tw_483 (by decide) (Nat.le_of_ble_eq_true rfl) dX3_hasPosts_2 (fun r2 M1 => ?_)
  refine v_if_eq (pc := 5) 20 dX3_hasPosts_5 (by decide) ?_ ?_
  · refine v_iconst (pc := 20) 0 dX3_hasPosts_20 (by decide) ?_
    exact v_zret (pc := 21) dX3_hasPosts_21
  · refine v_aload_n (pc := 8) dX3_hasPosts_8 rfl ?_
    refine v_iload_n (pc := 9) dX3_hasPosts_9 rfl ?_
    refine v_callV (pc := 10) (As := [.int v2]) (cNet_hasPost l G v2 M1) zc_X3_hasPost zk3 rfl lx_1 tw_483 (by decide) (Nat.le_of_ble_eq_true rfl) dX3_hasPosts_10 (fun r4 M3 => ?_)
    refine v_if_eq (pc := 13) 20 dX3_hasPosts_13 (by decide) ?_ ?_
    · refine v_iconst (pc := 20) 0 dX3_hasPosts_20 (by decide) ?_
      exact v_zret (pc := 21) dX3_hasPosts_21
    · refine v_iconst (pc := 16) 1 dX3_hasPosts_16 (by decide) ?_
      refine v_goto (pc := 17) 21 dX3_hasPosts_17 (by decide) ?_
      exact v_zret (pc := 21) dX3_hasPosts_21
theorem cNet_hasPosts (l : Launch) (G : zG) (v1 : Int32) (v2 : Int32) (M : zM) : zC eI l G zLX zRX 2 yX3_hasPosts cX3_hasPosts 3 (some .boolean) [.ref 1, .int v1, .int v2] M (fNet_hasPosts v1 v2 M) := zC.of (by decide) (Nat.le_of_ble_eq_true rfl) (v_sub (wNet_hasPosts l G v1 v2 M) rfl)
theorem dX3_hasLine_0 : decode cX3_hasLine 0 = .ok (.iload_n 1, 1) := by decide +kernel
theorem dX3_hasLine_1 : decode cX3_hasLine 1 = .ok (.ifCond .lt 15, 3) := by decide +kernel
theorem dX3_hasLine_4 : decode cX3_hasLine 4 = .ok (.iload_n 1, 1) := by decide +kernel
theorem dX3_hasLine_5 : decode cX3_hasLine 5 = .ok (.aload_n 0, 1) := by decide +kernel
theorem dX3_hasLine_6 : decode cX3_hasLine 6 = .ok (.getfield 15, 3) := by decide +kernel
theorem dX3_hasLine_9 : decode cX3_hasLine 9 = .ok (.if_icmp .ge 7, 3) := by decide +kernel
theorem dX3_hasLine_12 : decode cX3_hasLine 12 = .ok (.iconst 1, 1) := by decide +kernel
theorem dX3_hasLine_13 : decode cX3_hasLine 13 = .ok (.goto 4, 3) := by decide +kernel
theorem dX3_hasLine_16 : decode cX3_hasLine 16 = .ok (.iconst 0, 1) := by decide +kernel
theorem dX3_hasLine_17 : decode cX3_hasLine 17 = .ok (.ireturn, 1) := by decide +kernel
theorem wNet_hasLine (l : Launch) (G : zG) (v1 : Int32) (M : zM) : zV eI l G zLX zRX 1 yX3_hasLine cX3_hasLine 2 (some .boolean) 0 [(0, .ref 1), (1, .int v1)] [] M (fNet_hasLine v1 M) := by
  rw [fNet_hasLine]
  refine v_iload_n (pc := 0) dX3_hasLine_0 rfl ?_
  refine v_if_lt (pc := 1) 16 dX3_hasLine_1 (by decide) ?_ ?_
  · refine v_iconst (pc := 16) 0 dX3_hasLine_16 (by decide) ?_
    exact v_zret (pc := 17) dX3_hasLine_17
  · refine v_iload_n (pc := 4) dX3_hasLine_4 rfl ?_
    refine v_aload_n (pc := 5) dX3_hasLine_5 rfl ?_
    refine v_getI (pc := 6) (q := 1) zk3 lx_1 rfl tw_120 dX3_hasLine_6 ?_
    refine v_icmp_ge (pc := 9) 16 dX3_hasLine_9 (by decide) ?_ ?_
    · refine v_iconst (pc := 16) 0 dX3_hasLine_16 (by decide) ?_
      exact v_zret (pc := 17) dX3_hasLine_17
    · refine v_iconst (pc := 12) 1 dX3_hasLine_12 (by decide) ?_
      refine v_goto (pc := 13) 17 dX3_hasLine_13 (by decide) ?_
      exact v_zret (pc := 17) dX3_hasLine_17
theorem cNet_hasLine (l : Launch) (G : zG) (v1 : Int32) (M : zM) : zC eI l G zLX zRX 1 yX3_hasLine cX3_hasLine 2 (some .boolean) [.ref 1, .int v1] M (fNet_hasLine v1 M) := zC.of (by decide) (Nat.le_of_ble_eq_true rfl) (v_sub (wNet_hasLine l G v1 M) rfl)
theorem dX3_hasLines_0 : decode cX3_hasLines 0 = .ok (.iload_n 1, 1) := by decide +kernel
theorem dX3_hasLines_1 : decode cX3_hasLines 1 = .ok (.aload_n 0, 1) := by decide +kernel
theorem dX3_hasLines_2 : decode cX3_hasLines 2 = .ok (.getfield 15, 3) := by decide +kernel
theorem dX3_hasLines_5 : decode cX3_hasLines 5 = .ok (.iushr, 1) := by decide +kernel
theorem dX3_hasLines_6 : decode cX3_hasLines 6 = .ok (.ifCond .ne 7, 3) := by decide +kernel
theorem dX3_hasLines_9 : decode cX3_hasLines 9 = .ok (.iconst 1, 1) := by decide +kernel
theorem dX3_hasLines_10 : decode cX3_hasLines 10 = .ok (.goto 4, 3) := by decide +kernel
theorem dX3_hasLines_13 : decode cX3_hasLines 13 = .ok (.iconst 0, 1) := by decide +kernel
theorem dX3_hasLines_14 : decode cX3_hasLines 14 = .ok (.ireturn, 1) := by decide +kernel
theorem wNet_hasLines (l : Launch) (G : zG) (v1 : Int32) (M : zM) : zV eI l G zLX zRX 1 yX3_hasLines cX3_hasLines 2 (some .boolean) 0 [(0, .ref 1), (1, .int v1)] [] M (fNet_hasLines v1 M) := by
  rw [fNet_hasLines]
  refine v_iload_n (pc := 0) dX3_hasLines_0 rfl ?_
  refine v_aload_n (pc := 1) dX3_hasLines_1 rfl ?_
  refine v_getI (pc := 2) (q := 1) zk3 lx_1 rfl tw_120 dX3_hasLines_2 ?_
  refine v_iushr (pc := 5) dX3_hasLines_5 ?_
  refine v_if_ne (pc := 6) 13 dX3_hasLines_6 (by decide) ?_ ?_
  · refine v_iconst (pc := 13) 0 dX3_hasLines_13 (by decide) ?_
    exact v_zret (pc := 14) dX3_hasLines_14
  · refine v_iconst (pc := 9) 1 dX3_hasLines_9 (by decide) ?_
    refine v_goto (pc := 10) 14 dX3_hasLines_10 (by decide) ?_
    exact v_zret (pc := 14) dX3_hasLines_14
theorem cNet_hasLines (l : Launch) (G : zG) (v1 : Int32) (M : zM) : zC eI l G zLX zRX 1 yX3_hasLines cX3_hasLines 2 (some .boolean) [.ref 1, .int v1] M (fNet_hasLines v1 M) := zC.of (by decide) (Nat.le_of_ble_eq_true rfl) (v_sub (wNet_hasLines l G v1 M) rfl)
theorem dX3_mostLines_0 : decode cX3_mostLines 0 = .ok (.iconst 0, 1) := by decide +kernel
theorem dX3_mostLines_1 : decode cX3_mostLines 1 = .ok (.istore_n 1, 1) := by decide +kernel
theorem dX3_mostLines_2 : decode cX3_mostLines 2 = .ok (.iconst 0, 1) := by decide +kernel
theorem dX3_mostLines_3 : decode cX3_mostLines 3 = .ok (.istore_n 2, 1) := by decide +kernel
theorem dX3_mostLines_4 : decode cX3_mostLines 4 = .ok (.iload_n 2, 1) := by decide +kernel
theorem dX3_mostLines_5 : decode cX3_mostLines 5 = .ok (.aload_n 0, 1) := by decide +kernel
theorem dX3_mostLines_6 : decode cX3_mostLines 6 = .ok (.getfield 9, 3) := by decide +kernel
theorem dX3_mostLines_9 : decode cX3_mostLines 9 = .ok (.if_icmp .ge 19, 3) := by decide +kernel
theorem dX3_mostLines_12 : decode cX3_mostLines 12 = .ok (.iload_n 1, 1) := by decide +kernel
theorem dX3_mostLines_13 : decode cX3_mostLines 13 = .ok (.aload_n 0, 1) := by decide +kernel
theorem dX3_mostLines_14 : decode cX3_mostLines 14 = .ok (.iload_n 2, 1) := by decide +kernel
theorem dX3_mostLines_15 : decode cX3_mostLines 15 = .ok (.invokevirtual 41, 3) := by decide +kernel
theorem dX3_mostLines_18 : decode cX3_mostLines 18 = .ok (.invokestatic 44, 3) := by decide +kernel
theorem dX3_mostLines_21 : decode cX3_mostLines 21 = .ok (.istore_n 1, 1) := by decide +kernel
theorem dX3_mostLines_22 : decode cX3_mostLines 22 = .ok (.iinc 2 1, 3) := by decide +kernel
theorem dX3_mostLines_25 : decode cX3_mostLines 25 = .ok (.goto (-21), 3) := by decide +kernel
theorem dX3_mostLines_28 : decode cX3_mostLines 28 = .ok (.iload_n 1, 1) := by decide +kernel
theorem dX3_mostLines_29 : decode cX3_mostLines 29 = .ok (.ireturn, 1) := by decide +kernel
theorem wNet_mostLines_4 (l : Launch) (G : zG) : ∀ (fuel : Nat) (v1 : Int32) (v2 : Int32) (M : zM), zV eI l G zLX zRX 3 yX3_mostLines cX3_mostLines 3 (some .int) 4 [(0, .ref 1), (1, .int v1), (2, .int v2)] [] M (fNet_mostLines_4 fuel v1 v2 M) := by
  intro fuel
  induction fuel with
  | zero => intro v1 v2 M; exact v_none
  | succ fuel ih =>
    intro v1 v2 M
    rw [fNet_mostLines_4]
    refine v_iload_n (pc := 4) dX3_mostLines_4 rfl ?_
    refine v_aload_n (pc := 5) dX3_mostLines_5 rfl ?_
    refine v_getI (pc := 6) (q := 0) zk3 lx_1 rfl tw_114 dX3_mostLines_6 ?_
    refine v_icmp_ge (pc := 9) 28 dX3_mostLines_9 (by decide) ?_ ?_
    · refine v_iload_n (pc := 28) dX3_mostLines_28 rfl ?_
      exact v_iret (pc := 29) dX3_mostLines_29
    · refine v_iload_n (pc := 12) dX3_mostLines_12 rfl ?_
      refine v_aload_n (pc := 13) dX3_mostLines_13 rfl ?_
      refine v_iload_n (pc := 14) dX3_mostLines_14 rfl ?_
      refine v_callV (pc := 15) (As := [.int v2]) (cNet_degree l G v2 M) zc_X3_degree zk3 rfl lx_1 tw_549 (by decide) (Nat.le_of_ble_eq_true rfl) dX3_mostLines_15 (fun r2 M1 => ?_)
      refine v_mmax (pc := 18) tw_559 (by decide) (Nat.le_of_ble_eq_true rfl) dX3_mostLines_18 ?_
      refine v_istore_nL (pc := 21) dX3_mostLines_21 (by decide) (fun u1_21 => ?_)
      refine v_iinc (pc := 22) 1 dX3_mostLines_22 rfl (by decide) (by decide) ?_
      refine v_goto (pc := 25) 4 dX3_mostLines_25 (by decide) ?_
      exact v_sub (ih u1_21 (v2 + 1) M1) rfl
theorem wNet_mostLines (l : Launch) (G : zG)  (M : zM) : zV eI l G zLX zRX 3 yX3_mostLines cX3_mostLines 3 (some .int) 0 [(0, .ref 1)] [] M (fNet_mostLines  M) := by
  rw [fNet_mostLines]
  refine v_iconst (pc := 0) 0 dX3_mostLines_0 (by decide) ?_
  refine v_istore_n (pc := 1) dX3_mostLines_1 (by decide) ?_
  refine v_iconst (pc := 2) 0 dX3_mostLines_2 (by decide) ?_
  refine v_istore_n (pc := 3) dX3_mostLines_3 (by decide) ?_
  exact v_sub (wNet_mostLines_4 l G FU 0 0 M) rfl
theorem cNet_mostLines (l : Launch) (G : zG)  (M : zM) : zC eI l G zLX zRX 3 yX3_mostLines cX3_mostLines 3 (some .int) [.ref 1] M (fNet_mostLines  M) := zC.of (by decide) (Nat.le_of_ble_eq_true rfl) (v_sub (wNet_mostLines l G  M) rfl)
theorem dX3_begin_0 : decode cX3_begin 0 = .ok (.aload_n 0, 1) := by decide +kernel
theorem dX3_begin_1 : decode cX3_begin 1 = .ok (.iload_n 1, 1) := by decide +kernel
theorem dX3_begin_2 : decode cX3_begin 2 = .ok (.putfield 9, 3) := by decide +kernel
theorem dX3_begin_5 : decode cX3_begin 5 = .ok (.aload_n 0, 1) := by decide +kernel
theorem dX3_begin_6 : decode cX3_begin 6 = .ok (.iconst 0, 1) := by decide +kernel
theorem dX3_begin_7 : decode cX3_begin 7 = .ok (.putfield 15, 3) := by decide +kernel
theorem dX3_begin_10 : decode cX3_begin 10 = .ok (.aload_n 0, 1) := by decide +kernel
theorem dX3_begin_11 : decode cX3_begin 11 = .ok (.getfield 28, 3) := by decide +kernel
theorem dX3_begin_14 : decode cX3_begin 14 = .ok (.iconst 0, 1) := by decide +kernel
theorem dX3_begin_15 : decode cX3_begin 15 = .ok (.invokestatic 50, 3) := by decide +kernel
theorem dX3_begin_18 : decode cX3_begin 18 = .ok (.aload_n 0, 1) := by decide +kernel
theorem dX3_begin_19 : decode cX3_begin 19 = .ok (.dup, 1) := by decide +kernel
theorem dX3_begin_20 : decode cX3_begin 20 = .ok (.getfield 18, 3) := by decide +kernel
theorem dX3_begin_23 : decode cX3_begin 23 = .ok (.iconst 1, 1) := by decide +kernel
theorem dX3_begin_24 : decode cX3_begin 24 = .ok (.iadd, 1) := by decide +kernel
theorem dX3_begin_25 : decode cX3_begin 25 = .ok (.putfield 18, 3) := by decide +kernel
theorem dX3_begin_28 : decode cX3_begin 28 = .ok (.return_, 1) := by decide +kernel
theorem wNet_begin (l : Launch) (G : zG) (v1 : Int32) (M : zM) : zV eV l G zLX zRX 2 yX3_begin cX3_begin 2 none 0 [(0, .ref 1), (1, .int v1)] [] M (fNet_begin v1 M) := by
  rw [fNet_begin]
  refine v_aload_n (pc := 0) dX3_begin_0 rfl ?_
  refine v_iload_n (pc := 1) dX3_begin_1 rfl ?_
  refine v_putI (pc := 2) (q := 0) zk3 lx_1 rfl tw_114 rfl rfl rfl dX3_begin_2 (fun M1 => ?_)
  refine v_aload_n (pc := 5) dX3_begin_5 rfl ?_
  refine v_iconst (pc := 6) 0 dX3_begin_6 (by decide) ?_
  refine v_putI (pc := 7) (q := 1) zk3 lx_1 rfl tw_120 rfl rfl rfl dX3_begin_7 (fun M2 => ?_)
  refine v_aload_n (pc := 10) dX3_begin_10 rfl ?_
  refine v_getR (pc := 11) (q := 5) zk3 lx_1 rfl rx_1_5 tw_137 dX3_begin_11 ?_
  refine v_iconst (pc := 14) 0 dX3_begin_14 (by decide) ?_
  refine v_callS (pc := 15) (As := [.ref 4, .int 0]) (cJ7_fill l G 4 12 lx_4 0 M2) zc_J7_fill_53178 tw_464 (by decide) (Nat.le_of_ble_eq_true rfl) dX3_begin_15 (fun _ M3 => ?_)
  skip
  refine v_aload_n (pc := 18) dX3_begin_18 rfl ?_
  refine v_dup (pc := 19) dX3_begin_19 rfl ?_
  refine v_getI (pc := 20) (q := 2) zk3 lx_1 rfl tw_125 dX3_begin_20 ?_
  refine v_iconst (pc := 23) 1 dX3_begin_23 (by decide) ?_
  refine v_iadd (pc := 24) dX3_begin_24 ?_
  refine v_putI (pc := 25) (q := 2) zk3 lx_1 rfl tw_125 rfl rfl rfl dX3_begin_25 (fun M4 => ?_)
  exact v_vret (pc := 28) dX3_begin_28
theorem cNet_begin (l : Launch) (G : zG) (v1 : Int32) (M : zM) : zC eV l G zLX zRX 2 yX3_begin cX3_begin 2 none [.ref 1, .int v1] M (fNet_begin v1 M) := zC.of (by decide) (Nat.le_of_ble_eq_true rfl) (v_sub (wNet_begin l G v1 M) rfl)
theorem dX3_addPost_0 : decode cX3_addPost 0 = .ok (.aload_n 0, 1) := by decide +kernel
theorem dX3_addPost_1 : decode cX3_addPost 1 = .ok (.dup, 1) := by decide +kernel
theorem dX3_addPost_2 : decode cX3_addPost 2 = .ok (.getfield 18, 3) := by decide +kernel
theorem dX3_addPost_5 : decode cX3_addPost 5 = .ok (.iconst 1, 1) := by decide +kernel
theorem dX3_addPost_6 : decode cX3_addPost 6 = .ok (.iadd, 1) := by decide +kernel
theorem dX3_addPost_7 : decode cX3_addPost 7 = .ok (.putfield 18, 3) := by decide +kernel
theorem dX3_addPost_10 : decode cX3_addPost 10 = .ok (.aload_n 0, 1) := by decide +kernel
theorem dX3_addPost_11 : decode cX3_addPost 11 = .ok (.dup, 1) := by decide +kernel
theorem dX3_addPost_12 : decode cX3_addPost 12 = .ok (.getfield 9, 3) := by decide +kernel
theorem dX3_addPost_15 : decode cX3_addPost 15 = .ok (.iconst 1, 1) := by decide +kernel
theorem dX3_addPost_16 : decode cX3_addPost 16 = .ok (.iadd, 1) := by decide +kernel
theorem dX3_addPost_17 : decode cX3_addPost 17 = .ok (.putfield 9, 3) := by decide +kernel
theorem dX3_addPost_20 : decode cX3_addPost 20 = .ok (.aload_n 0, 1) := by decide +kernel
theorem dX3_addPost_21 : decode cX3_addPost 21 = .ok (.getfield 9, 3) := by decide +kernel
theorem dX3_addPost_24 : decode cX3_addPost 24 = .ok (.iconst 1, 1) := by decide +kernel
theorem dX3_addPost_25 : decode cX3_addPost 25 = .ok (.isub, 1) := by decide +kernel
theorem dX3_addPost_26 : decode cX3_addPost 26 = .ok (.ireturn, 1) := by decide +kernel
theorem wNet_addPost (l : Launch) (G : zG)  (M : zM) : zV eI l G zLX zRX 1 yX3_addPost cX3_addPost 1 (some .int) 0 [(0, .ref 1)] [] M (fNet_addPost  M) := by
  rw [fNet_addPost]
  refine v_aload_n (pc := 0) dX3_addPost_0 rfl ?_
  refine v_dup (pc := 1) dX3_addPost_1 rfl ?_
  refine v_getI (pc := 2) (q := 2) zk3 lx_1 rfl tw_125 dX3_addPost_2 ?_
  refine v_iconst (pc := 5) 1 dX3_addPost_5 (by decide) ?_
  refine v_iadd (pc := 6) dX3_addPost_6 ?_
  refine v_putI (pc := 7) (q := 2) zk3 lx_1 rfl tw_125 rfl rfl rfl dX3_addPost_7 (fun M1 => ?_)
  refine v_aload_n (pc := 10) dX3_addPost_10 rfl ?_
  refine v_dup (pc := 11) dX3_addPost_11 rfl ?_
  refine v_getI (pc := 12) (q := 0) zk3 lx_1 rfl tw_114 dX3_addPost_12 ?_
  refine v_iconst (pc := 15) 1 dX3_addPost_15 (by decide) ?_
  refine v_iadd (pc := 16) dX3_addPost_16 ?_
  refine v_putI (pc := 17) (q := 0) zk3 lx_1 rfl tw_114 rfl rfl rfl dX3_addPost_17 (fun M2 => ?_)
  refine v_aload_n (pc := 20) dX3_addPost_20 rfl ?_
  refine v_getI (pc := 21) (q := 0) zk3 lx_1 rfl tw_114 dX3_addPost_21 ?_
  refine v_iconst (pc := 24) 1 dX3_addPost_24 (by decide) ?_
  refine v_isub (pc := 25) dX3_addPost_25 ?_
  exact v_iret (pc := 26) dX3_addPost_26
theorem cNet_addPost (l : Launch) (G : zG)  (M : zM) : zC eI l G zLX zRX 1 yX3_addPost cX3_addPost 1 (some .int) [.ref 1] M (fNet_addPost  M) := zC.of (by decide) (Nat.le_of_ble_eq_true rfl) (v_sub (wNet_addPost l G  M) rfl)
theorem dX3_addLine_0 : decode cX3_addLine 0 = .ok (.aload_n 0, 1) := by decide +kernel
theorem dX3_addLine_1 : decode cX3_addLine 1 = .ok (.getfield 21, 3) := by decide +kernel
theorem dX3_addLine_4 : decode cX3_addLine 4 = .ok (.aload_n 0, 1) := by decide +kernel
theorem dX3_addLine_5 : decode cX3_addLine 5 = .ok (.getfield 15, 3) := by decide +kernel
theorem dX3_addLine_8 : decode cX3_addLine 8 = .ok (.iload_n 1, 1) := by decide +kernel
theorem dX3_addLine_9 : decode cX3_addLine 9 = .ok (.iastore, 1) := by decide +kernel
theorem dX3_addLine_10 : decode cX3_addLine 10 = .ok (.aload_n 0, 1) := by decide +kernel
theorem dX3_addLine_11 : decode cX3_addLine 11 = .ok (.getfield 25, 3) := by decide +kernel
theorem dX3_addLine_14 : decode cX3_addLine 14 = .ok (.aload_n 0, 1) := by decide +kernel
theorem dX3_addLine_15 : decode cX3_addLine 15 = .ok (.getfield 15, 3) := by decide +kernel
theorem dX3_addLine_18 : decode cX3_addLine 18 = .ok (.iload_n 2, 1) := by decide +kernel
theorem dX3_addLine_19 : decode cX3_addLine 19 = .ok (.iastore, 1) := by decide +kernel
theorem dX3_addLine_20 : decode cX3_addLine 20 = .ok (.aload_n 0, 1) := by decide +kernel
theorem dX3_addLine_21 : decode cX3_addLine 21 = .ok (.getfield 28, 3) := by decide +kernel
theorem dX3_addLine_24 : decode cX3_addLine 24 = .ok (.iload_n 1, 1) := by decide +kernel
theorem dX3_addLine_25 : decode cX3_addLine 25 = .ok (.dup2, 1) := by decide +kernel
theorem dX3_addLine_26 : decode cX3_addLine 26 = .ok (.iaload, 1) := by decide +kernel
theorem dX3_addLine_27 : decode cX3_addLine 27 = .ok (.iconst 1, 1) := by decide +kernel
theorem dX3_addLine_28 : decode cX3_addLine 28 = .ok (.iload_n 2, 1) := by decide +kernel
theorem dX3_addLine_29 : decode cX3_addLine 29 = .ok (.ishl, 1) := by decide +kernel
theorem dX3_addLine_30 : decode cX3_addLine 30 = .ok (.ior, 1) := by decide +kernel
theorem dX3_addLine_31 : decode cX3_addLine 31 = .ok (.iastore, 1) := by decide +kernel
theorem dX3_addLine_32 : decode cX3_addLine 32 = .ok (.aload_n 0, 1) := by decide +kernel
theorem dX3_addLine_33 : decode cX3_addLine 33 = .ok (.getfield 28, 3) := by decide +kernel
theorem dX3_addLine_36 : decode cX3_addLine 36 = .ok (.iload_n 2, 1) := by decide +kernel
theorem dX3_addLine_37 : decode cX3_addLine 37 = .ok (.dup2, 1) := by decide +kernel
theorem dX3_addLine_38 : decode cX3_addLine 38 = .ok (.iaload, 1) := by decide +kernel
theorem dX3_addLine_39 : decode cX3_addLine 39 = .ok (.iconst 1, 1) := by decide +kernel
theorem dX3_addLine_40 : decode cX3_addLine 40 = .ok (.iload_n 1, 1) := by decide +kernel
theorem dX3_addLine_41 : decode cX3_addLine 41 = .ok (.ishl, 1) := by decide +kernel
theorem dX3_addLine_42 : decode cX3_addLine 42 = .ok (.ior, 1) := by decide +kernel
theorem dX3_addLine_43 : decode cX3_addLine 43 = .ok (.iastore, 1) := by decide +kernel
theorem dX3_addLine_44 : decode cX3_addLine 44 = .ok (.aload_n 0, 1) := by decide +kernel
theorem dX3_addLine_45 : decode cX3_addLine 45 = .ok (.dup, 1) := by decide +kernel
theorem dX3_addLine_46 : decode cX3_addLine 46 = .ok (.getfield 18, 3) := by decide +kernel
theorem dX3_addLine_49 : decode cX3_addLine 49 = .ok (.iconst 1, 1) := by decide +kernel
theorem dX3_addLine_50 : decode cX3_addLine 50 = .ok (.iadd, 1) := by decide +kernel
theorem dX3_addLine_51 : decode cX3_addLine 51 = .ok (.putfield 18, 3) := by decide +kernel
theorem dX3_addLine_54 : decode cX3_addLine 54 = .ok (.aload_n 0, 1) := by decide +kernel
theorem dX3_addLine_55 : decode cX3_addLine 55 = .ok (.dup, 1) := by decide +kernel
theorem dX3_addLine_56 : decode cX3_addLine 56 = .ok (.getfield 15, 3) := by decide +kernel
theorem dX3_addLine_59 : decode cX3_addLine 59 = .ok (.iconst 1, 1) := by decide +kernel
theorem dX3_addLine_60 : decode cX3_addLine 60 = .ok (.iadd, 1) := by decide +kernel
theorem dX3_addLine_61 : decode cX3_addLine 61 = .ok (.putfield 15, 3) := by decide +kernel
theorem dX3_addLine_64 : decode cX3_addLine 64 = .ok (.aload_n 0, 1) := by decide +kernel
theorem dX3_addLine_65 : decode cX3_addLine 65 = .ok (.getfield 15, 3) := by decide +kernel
theorem dX3_addLine_68 : decode cX3_addLine 68 = .ok (.iconst 1, 1) := by decide +kernel
theorem dX3_addLine_69 : decode cX3_addLine 69 = .ok (.isub, 1) := by decide +kernel
theorem dX3_addLine_70 : decode cX3_addLine 70 = .ok (.ireturn, 1) := by decide +kernel
theorem wNet_addLine (l : Launch) (G : zG) (v1 : Int32) (v2 : Int32) (M : zM) : zV eI l G zLX zRX 1 yX3_addLine cX3_addLine 3 (some .int) 0 [(0, .ref 1), (1, .int v1), (2, .int v2)] [] M (fNet_addLine v1 v2 M) := by
  rw [fNet_addLine]
  refine v_aload_n (pc := 0) dX3_addLine_0 rfl ?_
  refine v_getR (pc := 1) (q := 3) zk3 lx_1 rfl rx_1_3 tw_129 dX3_addLine_1 ?_
  refine v_aload_n (pc := 4) dX3_addLine_4 rfl ?_
  refine v_getI (pc := 5) (q := 1) zk3 lx_1 rfl tw_120 dX3_addLine_5 ?_
  refine v_iload_n (pc := 8) dX3_addLine_8 rfl ?_
  refine v_iast (pc := 9) lx_2 dX3_addLine_9 (fun M1 => ?_)
  refine v_aload_n (pc := 10) dX3_addLine_10 rfl ?_
  refine v_getR (pc := 11) (q := 4) zk3 lx_1 rfl rx_1_4 tw_133 dX3_addLine_11 ?_
  refine v_aload_n (pc := 14) dX3_addLine_14 rfl ?_
  refine v_getI (pc := 15) (q := 1) zk3 lx_1 rfl tw_120 dX3_addLine_15 ?_
  refine v_iload_n (pc := 18) dX3_addLine_18 rfl ?_
  refine v_iast (pc := 19) lx_3 dX3_addLine_19 (fun M2 => ?_)
  refine v_aload_n (pc := 20) dX3_addLine_20 rfl ?_
  refine v_getR (pc := 21) (q := 5) zk3 lx_1 rfl rx_1_5 tw_137 dX3_addLine_21 ?_
  refine v_iload_n (pc := 24) dX3_addLine_24 rfl ?_
  refine v_dup2 (pc := 25) dX3_addLine_25 rfl rfl ?_
  refine v_iald (pc := 26) lx_4 dX3_addLine_26 (fun x3 => ?_)
  refine v_iconst (pc := 27) 1 dX3_addLine_27 (by decide) ?_
  refine v_iload_n (pc := 28) dX3_addLine_28 rfl ?_
  refine v_ishl (pc := 29) dX3_addLine_29 ?_
  refine v_ior (pc := 30) dX3_addLine_30 ?_
  refine v_iast (pc := 31) lx_4 dX3_addLine_31 (fun M4 => ?_)
  refine v_aload_n (pc := 32) dX3_addLine_32 rfl ?_
  refine v_getR (pc := 33) (q := 5) zk3 lx_1 rfl rx_1_5 tw_137 dX3_addLine_33 ?_
  refine v_iload_n (pc := 36) dX3_addLine_36 rfl ?_
  refine v_dup2 (pc := 37) dX3_addLine_37 rfl rfl ?_
  refine v_iald (pc := 38) lx_4 dX3_addLine_38 (fun x5 => ?_)
  refine v_iconst (pc := 39) 1 dX3_addLine_39 (by decide) ?_
  refine v_iload_n (pc := 40) dX3_addLine_40 rfl ?_
  refine v_ishl (pc := 41) dX3_addLine_41 ?_
  refine v_ior (pc := 42) dX3_addLine_42 ?_
  refine v_iast (pc := 43) lx_4 dX3_addLine_43 (fun M6 => ?_)
  refine v_aload_n (pc := 44) dX3_addLine_44 rfl ?_
  refine v_dup (pc := 45) dX3_addLine_45 rfl ?_
  refine v_getI (pc := 46) (q := 2) zk3 lx_1 rfl tw_125 dX3_addLine_46 ?_
  refine v_iconst (pc := 49) 1 dX3_addLine_49 (by decide) ?_
  refine v_iadd (pc := 50) dX3_addLine_50 ?_
  refine v_putI (pc := 51) (q := 2) zk3 lx_1 rfl tw_125 rfl rfl rfl dX3_addLine_51 (fun M7 => ?_)
  refine v_aload_n (pc := 54) dX3_addLine_54 rfl ?_
  refine v_dup (pc := 55) dX3_addLine_55 rfl ?_
  refine v_getI (pc := 56) (q := 1) zk3 lx_1 rfl tw_120 dX3_addLine_56 ?_
  refine v_iconst (pc := 59) 1 dX3_addLine_59 (by decide) ?_
  refine v_iadd (pc := 60) dX3_addLine_60 ?_
  refine v_putI (pc := 61) (q := 1) zk3 lx_1 rfl tw_120 rfl rfl rfl dX3_addLine_61 (fun M8 => ?_)
  refine v_aload_n (pc := 64) dX3_addLine_64 rfl ?_
  refine v_getI (pc := 65) (q := 1) zk3 lx_1 rfl tw_120 dX3_addLine_65 ?_
  refine v_iconst (pc := 68) 1 dX3_addLine_68 (by decide) ?_
  refine v_isub (pc := 69) dX3_addLine_69 ?_
  exact v_iret (pc := 70) dX3_addLine_70
theorem cNet_addLine (l : Launch) (G : zG) (v1 : Int32) (v2 : Int32) (M : zM) : zC eI l G zLX zRX 1 yX3_addLine cX3_addLine 3 (some .int) [.ref 1, .int v1, .int v2] M (fNet_addLine v1 v2 M) := zC.of (by decide) (Nat.le_of_ble_eq_true rfl) (v_sub (wNet_addLine l G v1 v2 M) rfl)
theorem dX3_removeLine_0 : decode cX3_removeLine 0 = .ok (.aload_n 0, 1) := by decide +kernel
theorem dX3_removeLine_1 : decode cX3_removeLine 1 = .ok (.getfield 28, 3) := by decide +kernel
theorem dX3_removeLine_4 : decode cX3_removeLine 4 = .ok (.aload_n 0, 1) := by decide +kernel
theorem dX3_removeLine_5 : decode cX3_removeLine 5 = .ok (.getfield 21, 3) := by decide +kernel
theorem dX3_removeLine_8 : decode cX3_removeLine 8 = .ok (.iload_n 1, 1) := by decide +kernel
theorem dX3_removeLine_9 : decode cX3_removeLine 9 = .ok (.iaload, 1) := by decide +kernel
theorem dX3_removeLine_10 : decode cX3_removeLine 10 = .ok (.dup2, 1) := by decide +kernel
theorem dX3_removeLine_11 : decode cX3_removeLine 11 = .ok (.iaload, 1) := by decide +kernel
theorem dX3_removeLine_12 : decode cX3_removeLine 12 = .ok (.iconst 1, 1) := by decide +kernel
theorem dX3_removeLine_13 : decode cX3_removeLine 13 = .ok (.aload_n 0, 1) := by decide +kernel
theorem dX3_removeLine_14 : decode cX3_removeLine 14 = .ok (.getfield 25, 3) := by decide +kernel
theorem dX3_removeLine_17 : decode cX3_removeLine 17 = .ok (.iload_n 1, 1) := by decide +kernel
theorem dX3_removeLine_18 : decode cX3_removeLine 18 = .ok (.iaload, 1) := by decide +kernel
theorem dX3_removeLine_19 : decode cX3_removeLine 19 = .ok (.ishl, 1) := by decide +kernel
theorem dX3_removeLine_20 : decode cX3_removeLine 20 = .ok (.iconst (-1), 1) := by decide +kernel
theorem dX3_removeLine_21 : decode cX3_removeLine 21 = .ok (.ixor, 1) := by decide +kernel
theorem dX3_removeLine_22 : decode cX3_removeLine 22 = .ok (.iand, 1) := by decide +kernel
theorem dX3_removeLine_23 : decode cX3_removeLine 23 = .ok (.iastore, 1) := by decide +kernel
theorem dX3_removeLine_24 : decode cX3_removeLine 24 = .ok (.aload_n 0, 1) := by decide +kernel
theorem dX3_removeLine_25 : decode cX3_removeLine 25 = .ok (.getfield 28, 3) := by decide +kernel
theorem dX3_removeLine_28 : decode cX3_removeLine 28 = .ok (.aload_n 0, 1) := by decide +kernel
theorem dX3_removeLine_29 : decode cX3_removeLine 29 = .ok (.getfield 25, 3) := by decide +kernel
theorem dX3_removeLine_32 : decode cX3_removeLine 32 = .ok (.iload_n 1, 1) := by decide +kernel
theorem dX3_removeLine_33 : decode cX3_removeLine 33 = .ok (.iaload, 1) := by decide +kernel
theorem dX3_removeLine_34 : decode cX3_removeLine 34 = .ok (.dup2, 1) := by decide +kernel
theorem dX3_removeLine_35 : decode cX3_removeLine 35 = .ok (.iaload, 1) := by decide +kernel
theorem dX3_removeLine_36 : decode cX3_removeLine 36 = .ok (.iconst 1, 1) := by decide +kernel
theorem dX3_removeLine_37 : decode cX3_removeLine 37 = .ok (.aload_n 0, 1) := by decide +kernel
theorem dX3_removeLine_38 : decode cX3_removeLine 38 = .ok (.getfield 21, 3) := by decide +kernel
theorem dX3_removeLine_41 : decode cX3_removeLine 41 = .ok (.iload_n 1, 1) := by decide +kernel
theorem dX3_removeLine_42 : decode cX3_removeLine 42 = .ok (.iaload, 1) := by decide +kernel
theorem dX3_removeLine_43 : decode cX3_removeLine 43 = .ok (.ishl, 1) := by decide +kernel
theorem dX3_removeLine_44 : decode cX3_removeLine 44 = .ok (.iconst (-1), 1) := by decide +kernel
theorem dX3_removeLine_45 : decode cX3_removeLine 45 = .ok (.ixor, 1) := by decide +kernel
theorem dX3_removeLine_46 : decode cX3_removeLine 46 = .ok (.iand, 1) := by decide +kernel
theorem dX3_removeLine_47 : decode cX3_removeLine 47 = .ok (.iastore, 1) := by decide +kernel
theorem dX3_removeLine_48 : decode cX3_removeLine 48 = .ok (.iload_n 1, 1) := by decide +kernel
theorem dX3_removeLine_49 : decode cX3_removeLine 49 = .ok (.istore_n 2, 1) := by decide +kernel
theorem dX3_removeLine_50 : decode cX3_removeLine 50 = .ok (.iload_n 2, 1) := by decide +kernel
theorem dX3_removeLine_51 : decode cX3_removeLine 51 = .ok (.aload_n 0, 1) := by decide +kernel
theorem dX3_removeLine_52 : decode cX3_removeLine 52 = .ok (.getfield 15, 3) := by decide +kernel
theorem dX3_removeLine_55 : decode cX3_removeLine 55 = .ok (.iconst 1, 1) := by decide +kernel
theorem dX3_removeLine_56 : decode cX3_removeLine 56 = .ok (.isub, 1) := by decide +kernel
theorem dX3_removeLine_57 : decode cX3_removeLine 57 = .ok (.if_icmp .ge 37, 3) := by decide +kernel
theorem dX3_removeLine_60 : decode cX3_removeLine 60 = .ok (.aload_n 0, 1) := by decide +kernel
theorem dX3_removeLine_61 : decode cX3_removeLine 61 = .ok (.getfield 21, 3) := by decide +kernel
theorem dX3_removeLine_64 : decode cX3_removeLine 64 = .ok (.iload_n 2, 1) := by decide +kernel
theorem dX3_removeLine_65 : decode cX3_removeLine 65 = .ok (.aload_n 0, 1) := by decide +kernel
theorem dX3_removeLine_66 : decode cX3_removeLine 66 = .ok (.getfield 21, 3) := by decide +kernel
theorem dX3_removeLine_69 : decode cX3_removeLine 69 = .ok (.iload_n 2, 1) := by decide +kernel
theorem dX3_removeLine_70 : decode cX3_removeLine 70 = .ok (.iconst 1, 1) := by decide +kernel
theorem dX3_removeLine_71 : decode cX3_removeLine 71 = .ok (.iadd, 1) := by decide +kernel
theorem dX3_removeLine_72 : decode cX3_removeLine 72 = .ok (.iaload, 1) := by decide +kernel
theorem dX3_removeLine_73 : decode cX3_removeLine 73 = .ok (.iastore, 1) := by decide +kernel
theorem dX3_removeLine_74 : decode cX3_removeLine 74 = .ok (.aload_n 0, 1) := by decide +kernel
theorem dX3_removeLine_75 : decode cX3_removeLine 75 = .ok (.getfield 25, 3) := by decide +kernel
theorem dX3_removeLine_78 : decode cX3_removeLine 78 = .ok (.iload_n 2, 1) := by decide +kernel
theorem dX3_removeLine_79 : decode cX3_removeLine 79 = .ok (.aload_n 0, 1) := by decide +kernel
theorem dX3_removeLine_80 : decode cX3_removeLine 80 = .ok (.getfield 25, 3) := by decide +kernel
theorem dX3_removeLine_83 : decode cX3_removeLine 83 = .ok (.iload_n 2, 1) := by decide +kernel
theorem dX3_removeLine_84 : decode cX3_removeLine 84 = .ok (.iconst 1, 1) := by decide +kernel
theorem dX3_removeLine_85 : decode cX3_removeLine 85 = .ok (.iadd, 1) := by decide +kernel
theorem dX3_removeLine_86 : decode cX3_removeLine 86 = .ok (.iaload, 1) := by decide +kernel
theorem dX3_removeLine_87 : decode cX3_removeLine 87 = .ok (.iastore, 1) := by decide +kernel
theorem dX3_removeLine_88 : decode cX3_removeLine 88 = .ok (.iinc 2 1, 3) := by decide +kernel
theorem dX3_removeLine_91 : decode cX3_removeLine 91 = .ok (.goto (-41), 3) := by decide +kernel
theorem dX3_removeLine_94 : decode cX3_removeLine 94 = .ok (.aload_n 0, 1) := by decide +kernel
theorem dX3_removeLine_95 : decode cX3_removeLine 95 = .ok (.dup, 1) := by decide +kernel
theorem dX3_removeLine_96 : decode cX3_removeLine 96 = .ok (.getfield 18, 3) := by decide +kernel
theorem dX3_removeLine_99 : decode cX3_removeLine 99 = .ok (.iconst 1, 1) := by decide +kernel
theorem dX3_removeLine_100 : decode cX3_removeLine 100 = .ok (.iadd, 1) := by decide +kernel
theorem dX3_removeLine_101 : decode cX3_removeLine 101 = .ok (.putfield 18, 3) := by decide +kernel
theorem dX3_removeLine_104 : decode cX3_removeLine 104 = .ok (.aload_n 0, 1) := by decide +kernel
theorem dX3_removeLine_105 : decode cX3_removeLine 105 = .ok (.dup, 1) := by decide +kernel
theorem dX3_removeLine_106 : decode cX3_removeLine 106 = .ok (.getfield 15, 3) := by decide +kernel
theorem dX3_removeLine_109 : decode cX3_removeLine 109 = .ok (.iconst 1, 1) := by decide +kernel
theorem dX3_removeLine_110 : decode cX3_removeLine 110 = .ok (.isub, 1) := by decide +kernel
theorem dX3_removeLine_111 : decode cX3_removeLine 111 = .ok (.putfield 15, 3) := by decide +kernel
theorem dX3_removeLine_114 : decode cX3_removeLine 114 = .ok (.return_, 1) := by decide +kernel
theorem wNet_removeLine_50 (l : Launch) (G : zG) : ∀ (fuel : Nat) (v2 : Int32) (M : zM), zV eV l G zLX zRX 1 yX3_removeLine cX3_removeLine 3 none 50 [(0, .ref 1), (2, .int v2)] [] M (fNet_removeLine_50 fuel v2 M) := by
  intro fuel
  induction fuel with
  | zero => intro v2 M; exact v_none
  | succ fuel ih =>
    intro v2 M
    rw [fNet_removeLine_50]
    refine v_iload_n (pc := 50) dX3_removeLine_50 rfl ?_
    refine v_aload_n (pc := 51) dX3_removeLine_51 rfl ?_
    refine v_getI (pc := 52) (q := 1) zk3 lx_1 rfl tw_120 dX3_removeLine_52 ?_
    refine v_iconst (pc := 55) 1 dX3_removeLine_55 (by decide) ?_
    refine v_isub (pc := 56) dX3_removeLine_56 ?_
    refine v_icmp_ge (pc := 57) 94 dX3_removeLine_57 (by decide) ?_ ?_
    · refine v_aload_n (pc := 94) dX3_removeLine_94 rfl ?_
      refine v_dup (pc := 95) dX3_removeLine_95 rfl ?_
      refine v_getI (pc := 96) (q := 2) zk3 lx_1 rfl tw_125 dX3_removeLine_96 ?_
      refine v_iconst (pc := 99) 1 dX3_removeLine_99 (by decide) ?_
      refine v_iadd (pc := 100) dX3_removeLine_100 ?_
      refine v_putI (pc := 101) (q := 2) zk3 lx_1 rfl tw_125 rfl rfl rfl dX3_removeLine_101 (fun M1 => ?_)
      refine v_aload_n (pc := 104) dX3_removeLine_104 rfl ?_
      refine v_dup (pc := 105) dX3_removeLine_105 rfl ?_
      refine v_getI (pc := 106) (q := 1) zk3 lx_1 rfl tw_120 dX3_removeLine_106 ?_
      refine v_iconst (pc := 109) 1 dX3_removeLine_109 (by decide) ?_
      refine v_isub (pc := 110) dX3_removeLine_110 ?_
      refine v_putI (pc := 111) (q := 1) zk3 lx_1 rfl tw_120 rfl rfl rfl dX3_removeLine_111 (fun M2 => ?_)
      exact v_vret (pc := 114) dX3_removeLine_114
    · refine v_aload_n (pc := 60) dX3_removeLine_60 rfl ?_
      refine v_getR (pc := 61) (q := 3) zk3 lx_1 rfl rx_1_3 tw_129 dX3_removeLine_61 ?_
      refine v_iload_n (pc := 64) dX3_removeLine_64 rfl ?_
      refine v_aload_n (pc := 65) dX3_removeLine_65 rfl ?_
      refine v_getR (pc := 66) (q := 3) zk3 lx_1 rfl rx_1_3 tw_129 dX3_removeLine_66 ?_
      refine v_iload_n (pc := 69) dX3_removeLine_69 rfl ?_
      refine v_iconst (pc := 70) 1 dX3_removeLine_70 (by decide) ?_
      refine v_iadd (pc := 71) dX3_removeLine_71 ?_
      refine v_iald (pc := 72) lx_2 dX3_removeLine_72 (fun x3 => ?_)
      refine v_iast (pc := 73) lx_2 dX3_removeLine_73 (fun M4 => ?_)
      refine v_aload_n (pc := 74) dX3_removeLine_74 rfl ?_
      refine v_getR (pc := 75) (q := 4) zk3 lx_1 rfl rx_1_4 tw_133 dX3_removeLine_75 ?_
      refine v_iload_n (pc := 78) dX3_removeLine_78 rfl ?_
      refine v_aload_n (pc := 79) dX3_removeLine_79 rfl ?_
      refine v_getR (pc := 80) (q := 4) zk3 lx_1 rfl rx_1_4 tw_133 dX3_removeLine_80 ?_
      refine v_iload_n (pc := 83) dX3_removeLine_83 rfl ?_
      refine v_iconst (pc := 84) 1 dX3_removeLine_84 (by decide) ?_
      refine v_iadd (pc := 85) dX3_removeLine_85 ?_
      refine v_iald (pc := 86) lx_3 dX3_removeLine_86 (fun x5 => ?_)
      refine v_iast (pc := 87) lx_3 dX3_removeLine_87 (fun M6 => ?_)
      refine v_iinc (pc := 88) 1 dX3_removeLine_88 rfl (by decide) (by decide) ?_
      refine v_goto (pc := 91) 50 dX3_removeLine_91 (by decide) ?_
      exact v_sub (ih (v2 + 1) M6) rfl
theorem wNet_removeLine (l : Launch) (G : zG) (v1 : Int32) (M : zM) : zV eV l G zLX zRX 1 yX3_removeLine cX3_removeLine 3 none 0 [(0, .ref 1), (1, .int v1)] [] M (fNet_removeLine v1 M) := by
  rw [fNet_removeLine]
  refine v_aload_n (pc := 0) dX3_removeLine_0 rfl ?_
  refine v_getR (pc := 1) (q := 5) zk3 lx_1 rfl rx_1_5 tw_137 dX3_removeLine_1 ?_
  refine v_aload_n (pc := 4) dX3_removeLine_4 rfl ?_
  refine v_getR (pc := 5) (q := 3) zk3 lx_1 rfl rx_1_3 tw_129 dX3_removeLine_5 ?_
  refine v_iload_n (pc := 8) dX3_removeLine_8 rfl ?_
  refine v_iald (pc := 9) lx_2 dX3_removeLine_9 (fun x1 => ?_)
  refine v_dup2 (pc := 10) dX3_removeLine_10 rfl rfl ?_
  refine v_iald (pc := 11) lx_4 dX3_removeLine_11 (fun x2 => ?_)
  refine v_iconst (pc := 12) 1 dX3_removeLine_12 (by decide) ?_
  refine v_aload_n (pc := 13) dX3_removeLine_13 rfl ?_
  refine v_getR (pc := 14) (q := 4) zk3 lx_1 rfl rx_1_4 tw_133 dX3_removeLine_14 ?_
  refine v_iload_n (pc := 17) dX3_removeLine_17 rfl ?_
  refine v_iald (pc := 18) lx_3 dX3_removeLine_18 (fun x3 => ?_)
  refine v_ishl (pc := 19) dX3_removeLine_19 ?_
  refine v_iconst (pc := 20) (-1) dX3_removeLine_20 (by decide) ?_
  refine v_ixor (pc := 21) dX3_removeLine_21 ?_
  refine v_iand (pc := 22) dX3_removeLine_22 ?_
  refine v_iast (pc := 23) lx_4 dX3_removeLine_23 (fun M4 => ?_)
  refine v_aload_n (pc := 24) dX3_removeLine_24 rfl ?_
  refine v_getR (pc := 25) (q := 5) zk3 lx_1 rfl rx_1_5 tw_137 dX3_removeLine_25 ?_
  refine v_aload_n (pc := 28) dX3_removeLine_28 rfl ?_
  refine v_getR (pc := 29) (q := 4) zk3 lx_1 rfl rx_1_4 tw_133 dX3_removeLine_29 ?_
  refine v_iload_n (pc := 32) dX3_removeLine_32 rfl ?_
  refine v_iald (pc := 33) lx_3 dX3_removeLine_33 (fun x5 => ?_)
  refine v_dup2 (pc := 34) dX3_removeLine_34 rfl rfl ?_
  refine v_iald (pc := 35) lx_4 dX3_removeLine_35 (fun x6 => ?_)
  refine v_iconst (pc := 36) 1 dX3_removeLine_36 (by decide) ?_
  refine v_aload_n (pc := 37) dX3_removeLine_37 rfl ?_
  refine v_getR (pc := 38) (q := 3) zk3 lx_1 rfl rx_1_3 tw_129 dX3_removeLine_38 ?_
  refine v_iload_n (pc := 41) dX3_removeLine_41 rfl ?_
  refine v_iald (pc := 42) lx_2 dX3_removeLine_42 (fun x7 => ?_)
  refine v_ishl (pc := 43) dX3_removeLine_43 ?_
  refine v_iconst (pc := 44) (-1) dX3_removeLine_44 (by decide) ?_
  refine v_ixor (pc := 45) dX3_removeLine_45 ?_
  refine v_iand (pc := 46) dX3_removeLine_46 ?_
  refine v_iast (pc := 47) lx_4 dX3_removeLine_47 (fun M8 => ?_)
  refine v_iload_n (pc := 48) dX3_removeLine_48 rfl ?_
  refine v_istore_n (pc := 49) dX3_removeLine_49 (by decide) ?_
  exact v_sub (wNet_removeLine_50 l G FU v1 M8) rfl
theorem cNet_removeLine (l : Launch) (G : zG) (v1 : Int32) (M : zM) : zC eV l G zLX zRX 1 yX3_removeLine cX3_removeLine 3 none [.ref 1, .int v1] M (fNet_removeLine v1 M) := zC.of (by decide) (Nat.le_of_ble_eq_true rfl) (v_sub (wNet_removeLine l G v1 M) rfl)
