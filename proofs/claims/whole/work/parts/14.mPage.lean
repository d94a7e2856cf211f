theorem dX4_has_0 : decode cX4_has 0 = .ok (.iload_n 1, 1) := by decide +kernel
theorem dX4_has_1 : decode cX4_has 1 = .ok (.ifCond .lt 18, 3) := by decide +kernel
theorem dX4_has_4 : decode cX4_has 4 = .ok (.iload_n 1, 1) := by decide +kernel
theorem dX4_has_5 : decode cX4_has 5 = .ok (.aload_n 0, 1) := by decide +kernel
theorem dX4_has_6 : decode cX4_has 6 = .ok (.getfield 24, 3) := by decide +kernel
theorem dX4_has_9 : decode cX4_has 9 = .ok (.getfield 28, 3) := by decide +kernel
theorem dX4_has_12 : decode cX4_has 12 = .ok (.if_icmp .ge 7, 3) := by decide +kernel
theorem dX4_has_15 : decode cX4_has 15 = .ok (.iconst 1, 1) := by decide +kernel
theorem dX4_has_16 : decode cX4_has 16 = .ok (.goto 4, 3) := by decide +kernel
theorem dX4_has_19 : decode cX4_has 19 = .ok (.iconst 0, 1) := by decide +kernel
theorem dX4_has_20 : decode cX4_has 20 = .ok (.ireturn, 1) := by decide +kernel
theorem wPage_has (l : Launch) (G : zG) (c0 : Nat) (hc0 : zPg c0) (v1 : Int32) (M : zM) : zV eI l G zLX zRX 1 yX4_has cX4_has 2 (some .boolean) 0 [(0, .ref c0), (1, .int v1)] [] M (fPage_has c0 v1 M) := by
  rw [fPage_has]
  refine v_iload_n (pc := 0) dX4_has_0 rfl ?_
  refine v_if_lt (pc := 1) 19 dX4_has_1 (by decide) ?_ ?_
  · refine v_iconst (pc := 19) 0 dX4_has_19 (by decide) ?_
    exact v_zret (pc := 20) dX4_has_20
  · refine v_iload_n (pc := 4) dX4_has_4 rfl ?_
    refine v_aload_n (pc := 5) dX4_has_5 rfl ?_
    refine v_getR (pc := 6) (q := 1) zk4 hc0.1 rfl hc0.2.2.1 tw_291 dX4_has_6 ?_
    refine v_getI (pc := 9) (q := 2) zk2 hc0.2.2.2.2.1 rfl tw_233 dX4_has_9 ?_
    refine v_icmp_ge (pc := 12) 19 dX4_has_12 (by decide) ?_ ?_
    · refine v_iconst (pc := 19) 0 dX4_has_19 (by decide) ?_
      exact v_zret (pc := 20) dX4_has_20
    · refine v_iconst (pc := 15) 1 dX4_has_15 (by decide) ?_
      refine v_goto (pc := 16) 20 dX4_has_16 (by decide) ?_
      exact v_zret (pc := 20) dX4_has_20
theorem cPage_has (l : Launch) (G : zG) (c0 : Nat) (hc0 : zPg c0) (v1 : Int32) (M : zM) : zC eI l G zLX zRX 1 yX4_has cX4_has 2 (some .boolean) [.ref c0, .int v1] M (fPage_has c0 v1 M) := zC.of (by decide) (Nat.le_of_ble_eq_true rfl) (v_sub (wPage_has l G c0 hc0 v1 M) rfl)
theorem dX4_checkOf_0 : decode cX4_checkOf 0 = .ok (.bipush 7, 2) := by decide +kernel
theorem dX4_checkOf_2 : decode cX4_checkOf 2 = .ok (.aload_n 0, 1) := by decide +kernel
theorem dX4_checkOf_3 : decode cX4_checkOf 3 = .ok (.getfield 24, 3) := by decide +kernel
theorem dX4_checkOf_6 : decode cX4_checkOf 6 = .ok (.getfield 54, 3) := by decide +kernel
theorem dX4_checkOf_9 : decode cX4_checkOf 9 = .ok (.iload_n 1, 1) := by decide +kernel
theorem dX4_checkOf_10 : decode cX4_checkOf 10 = .ok (.iaload, 1) := by decide +kernel
theorem dX4_checkOf_11 : decode cX4_checkOf 11 = .ok (.imul, 1) := by decide +kernel
theorem dX4_checkOf_12 : decode cX4_checkOf 12 = .ok (.istore_n 2, 1) := by decide +kernel
theorem dX4_checkOf_13 : decode cX4_checkOf 13 = .ok (.iconst 0, 1) := by decide +kernel
theorem dX4_checkOf_14 : decode cX4_checkOf 14 = .ok (.istore_n 3, 1) := by decide +kernel
theorem dX4_checkOf_15 : decode cX4_checkOf 15 = .ok (.iload_n 3, 1) := by decide +kernel
theorem dX4_checkOf_16 : decode cX4_checkOf 16 = .ok (.aload_n 0, 1) := by decide +kernel
theorem dX4_checkOf_17 : decode cX4_checkOf 17 = .ok (.getfield 24, 3) := by decide +kernel
theorem dX4_checkOf_20 : decode cX4_checkOf 20 = .ok (.getfield 54, 3) := by decide +kernel
theorem dX4_checkOf_23 : decode cX4_checkOf 23 = .ok (.iload_n 1, 1) := by decide +kernel
theorem dX4_checkOf_24 : decode cX4_checkOf 24 = .ok (.iaload, 1) := by decide +kernel
theorem dX4_checkOf_25 : decode cX4_checkOf 25 = .ok (.if_icmp .ge 25, 3) := by decide +kernel
theorem dX4_checkOf_28 : decode cX4_checkOf 28 = .ok (.iload_n 2, 1) := by decide +kernel
theorem dX4_checkOf_29 : decode cX4_checkOf 29 = .ok (.aload_n 0, 1) := by decide +kernel
theorem dX4_checkOf_30 : decode cX4_checkOf 30 = .ok (.getfield 24, 3) := by decide +kernel
theorem dX4_checkOf_33 : decode cX4_checkOf 33 = .ok (.iload_n 1, 1) := by decide +kernel
theorem dX4_checkOf_34 : decode cX4_checkOf 34 = .ok (.iload_n 3, 1) := by decide +kernel
theorem dX4_checkOf_35 : decode cX4_checkOf 35 = .ok (.invokevirtual 57, 3) := by decide +kernel
theorem dX4_checkOf_38 : decode cX4_checkOf 38 = .ok (.iload_n 3, 1) := by decide +kernel
theorem dX4_checkOf_39 : decode cX4_checkOf 39 = .ok (.iconst 1, 1) := by decide +kernel
theorem dX4_checkOf_40 : decode cX4_checkOf 40 = .ok (.iadd, 1) := by decide +kernel
theorem dX4_checkOf_41 : decode cX4_checkOf 41 = .ok (.imul, 1) := by decide +kernel
theorem dX4_checkOf_42 : decode cX4_checkOf 42 = .ok (.iadd, 1) := by decide +kernel
theorem dX4_checkOf_43 : decode cX4_checkOf 43 = .ok (.istore_n 2, 1) := by decide +kernel
theorem dX4_checkOf_44 : decode cX4_checkOf 44 = .ok (.iinc 3 1, 3) := by decide +kernel
theorem dX4_checkOf_47 : decode cX4_checkOf 47 = .ok (.goto (-32), 3) := by decide +kernel
theorem dX4_checkOf_50 : decode cX4_checkOf 50 = .ok (.iload_n 2, 1) := by decide +kernel
theorem dX4_checkOf_51 : decode cX4_checkOf 51 = .ok (.bipush 101, 2) := by decide +kernel
theorem dX4_checkOf_53 : decode cX4_checkOf 53 = .ok (.irem, 1) := by decide +kernel
theorem dX4_checkOf_54 : decode cX4_checkOf 54 = .ok (.ireturn, 1) := by decide +kernel
theorem wPage_checkOf_15 (l : Launch) (G : zG) : ∀ (fuel : Nat) (c0 : Nat) (hc0 : zPg c0) (v1 : Int32) (v2 : Int32) (v3 : Int32) (M : zM), zV eI l G zLX zRX 2 yX4_checkOf cX4_checkOf 4 (some .int) 15 [(0, .ref c0), (1, .int v1), (2, .int v2), (3, .int v3)] [] M (fPage_checkOf_15 fuel c0 v1 v2 v3 M) := by
  intro fuel
  induction fuel with
  | zero => intro c0 hc0 v1 v2 v3 M; exact v_none
  | succ fuel ih =>
    intro c0 hc0 v1 v2 v3 M
    rw [fPage_checkOf_15]
    refine v_iload_n (pc := 15) dX4_checkOf_15 rfl ?_
    refine v_aload_n (pc := 16) dX4_checkOf_16 rfl ?_
    refine v_getR (pc := 17) (q := 1) zk4 hc0.1 rfl hc0.2.2.1 tw_291 dX4_checkOf_17 ?_
    refine v_getR (pc := 20) (q := 3) zk2 hc0.2.2.2.2.1 rfl hc0.2.2.2.2.2.2.2.1 tw_235 dX4_checkOf_20 ?_
    refine v_iload_n (pc := 23) dX4_checkOf_23 rfl ?_
    refine v_iald (pc := 24) hc0.2.2.2.2.2.1 dX4_checkOf_24 (fun x1 => ?_)
    refine v_icmp_ge (pc := 25) 50 dX4_checkOf_25 (by decide) ?_ ?_
    · refine v_iload_n (pc := 50) dX4_checkOf_50 rfl ?_
      refine v_bipush (pc := 51) 101 dX4_checkOf_51 (by decide) ?_
      refine v_irem (pc := 53) dX4_checkOf_53 (fun z2 => ?_)
      exact v_iret (pc := 54) dX4_checkOf_54
    · refine v_iload_n (pc := 28) dX4_checkOf_28 rfl ?_
      refine v_aload_n (pc := 29) dX4_checkOf_29 rfl ?_
      refine v_getR (pc := 30) (q := 1) zk4 hc0.1 rfl hc0.2.2.1 tw_291 dX4_checkOf_30 ?_
      refine v_iload_n (pc := 33) dX4_checkOf_33 rfl ?_
      refine v_iload_n (pc := 34) dX4_checkOf_34 rfl ?_
      refine v_callV (pc := 35) (As := [.int v1, .int v3]) (cNames_number l G (c0 + 2) hc0.2.2.2.2 v1 v3 M) zc_X2_number zk2 rfl hc0.2.2.2.2.1 tw_717 (by decide) (Nat.le_of_ble_eq_true rfl) dX4_checkOf_35 (fun r4 M3 => ?_)
      refine v_iload_n (pc := 38) dX4_checkOf_38 rfl ?_
      refine v_iconst (pc := 39) 1 dX4_checkOf_39 (by decide) ?_
      refine v_iadd (pc := 40) dX4_checkOf_40 ?_
      refine v_imul (pc := 41) dX4_checkOf_41 ?_
      refine v_iadd (pc := 42) dX4_checkOf_42 ?_
      refine v_istore_nL (pc := 43) dX4_checkOf_43 (by decide) (fun u2_43 => ?_)
      refine v_iinc (pc := 44) 1 dX4_checkOf_44 rfl (by decide) (by decide) ?_
      refine v_goto (pc := 47) 15 dX4_checkOf_47 (by decide) ?_
      exact v_sub (ih c0 hc0 v1 u2_43 (v3 + 1) M3) rfl
theorem wPage_checkOf (l : Launch) (G : zG) (c0 : Nat) (hc0 : zPg c0) (v1 : Int32) (M : zM) : zV eI l G zLX zRX 2 yX4_checkOf cX4_checkOf 4 (some .int) 0 [(0, .ref c0), (1, .int v1)] [] M (fPage_checkOf c0 v1 M) := by
  rw [fPage_checkOf]
  refine v_bipush (pc := 0) 7 dX4_checkOf_0 (by decide) ?_
  refine v_aload_n (pc := 2) dX4_checkOf_2 rfl ?_
  refine v_getR (pc := 3) (q := 1) zk4 hc0.1 rfl hc0.2.2.1 tw_291 dX4_checkOf_3 ?_
  refine v_getR (pc := 6) (q := 3) zk2 hc0.2.2.2.2.1 rfl hc0.2.2.2.2.2.2.2.1 tw_235 dX4_checkOf_6 ?_
  refine v_iload_n (pc := 9) dX4_checkOf_9 rfl ?_
  refine v_iald (pc := 10) hc0.2.2.2.2.2.1 dX4_checkOf_10 (fun x1 => ?_)
  refine v_imul (pc := 11) dX4_checkOf_11 ?_
  refine v_istore_nL (pc := 12) dX4_checkOf_12 (by decide) (fun u2_12 => ?_)
  refine v_iconst (pc := 13) 0 dX4_checkOf_13 (by decide) ?_
  refine v_istore_n (pc := 14) dX4_checkOf_14 (by decide) ?_
  exact v_sub (wPage_checkOf_15 l G FU c0 hc0 v1 u2_12 0 M) rfl
theorem cPage_checkOf (l : Launch) (G : zG) (c0 : Nat) (hc0 : zPg c0) (v1 : Int32) (M : zM) : zC eI l G zLX zRX 2 yX4_checkOf cX4_checkOf 4 (some .int) [.ref c0, .int v1] M (fPage_checkOf c0 v1 M) := zC.of (by decide) (Nat.le_of_ble_eq_true rfl) (v_sub (wPage_checkOf l G c0 hc0 v1 M) rfl)
theorem dX4_take_0 : decode cX4_take 0 = .ok (.aload_n 0, 1) := by decide +kernel
theorem dX4_take_1 : decode cX4_take 1 = .ok (.iconst 1, 1) := by decide +kernel
theorem dX4_take_2 : decode cX4_take 2 = .ok (.putfield 9, 3) := by decide +kernel
theorem dX4_take_5 : decode cX4_take 5 = .ok (.aload_n 0, 1) := by decide +kernel
theorem dX4_take_6 : decode cX4_take 6 = .ok (.getfield 24, 3) := by decide +kernel
theorem dX4_take_9 : decode cX4_take 9 = .ok (.aload_n 1, 1) := by decide +kernel
theorem dX4_take_10 : decode cX4_take 10 = .ok (.invokevirtual 32, 3) := by decide +kernel
theorem dX4_take_13 : decode cX4_take 13 = .ok (.iconst 0, 1) := by decide +kernel
theorem dX4_take_14 : decode cX4_take 14 = .ok (.istore_n 2, 1) := by decide +kernel
theorem dX4_take_15 : decode cX4_take 15 = .ok (.iload_n 2, 1) := by decide +kernel
theorem dX4_take_16 : decode cX4_take 16 = .ok (.aload_n 0, 1) := by decide +kernel
theorem dX4_take_17 : decode cX4_take 17 = .ok (.getfield 24, 3) := by decide +kernel
theorem dX4_take_20 : decode cX4_take 20 = .ok (.getfield 28, 3) := by decide +kernel
theorem dX4_take_23 : decode cX4_take 23 = .ok (.if_icmp .ge 20, 3) := by decide +kernel
theorem dX4_take_26 : decode cX4_take 26 = .ok (.aload_n 0, 1) := by decide +kernel
theorem dX4_take_27 : decode cX4_take 27 = .ok (.getfield 15, 3) := by decide +kernel
theorem dX4_take_30 : decode cX4_take 30 = .ok (.iload_n 2, 1) := by decide +kernel
theorem dX4_take_31 : decode cX4_take 31 = .ok (.aload_n 0, 1) := by decide +kernel
theorem dX4_take_32 : decode cX4_take 32 = .ok (.iload_n 2, 1) := by decide +kernel
theorem dX4_take_33 : decode cX4_take 33 = .ok (.invokevirtual 36, 3) := by decide +kernel
theorem dX4_take_36 : decode cX4_take 36 = .ok (.iastore, 1) := by decide +kernel
theorem dX4_take_37 : decode cX4_take 37 = .ok (.iinc 2 1, 3) := by decide +kernel
theorem dX4_take_40 : decode cX4_take 40 = .ok (.goto (-25), 3) := by decide +kernel
theorem dX4_take_43 : decode cX4_take 43 = .ok (.return_, 1) := by decide +kernel
theorem wPage_take_15 (l : Launch) (G : zG) : ∀ (fuel : Nat) (c0 : Nat) (hc0 : zPg c0) (v2 : Int32) (M : zM), zV eV l G zLX zRX 4 yX4_take cX4_take 3 none 15 [(0, .ref c0), (2, .int v2)] [] M (fPage_take_15 fuel c0 v2 M) := by
  intro fuel
  induction fuel with
  | zero => intro c0 hc0 v2 M; exact v_none
  | succ fuel ih =>
    intro c0 hc0 v2 M
    rw [fPage_take_15]
    refine v_iload_n (pc := 15) dX4_take_15 rfl ?_
    refine v_aload_n (pc := 16) dX4_take_16 rfl ?_
    refine v_getR (pc := 17) (q := 1) zk4 hc0.1 rfl hc0.2.2.1 tw_291 dX4_take_17 ?_
    refine v_getI (pc := 20) (q := 2) zk2 hc0.2.2.2.2.1 rfl tw_233 dX4_take_20 ?_
    refine v_icmp_ge (pc := 23) 43 dX4_take_23 (by decide) ?_ ?_
    · exact v_vret (pc := 43) dX4_take_43
    · refine v_aload_n (pc := 26) dX4_take_26 rfl ?_
      refine v_getR (pc := 27) (q := 2) zk4 hc0.1 rfl hc0.2.2.2.1 tw_293 dX4_take_27 ?_
      refine v_iload_n (pc := 30) dX4_take_30 rfl ?_
      refine v_aload_n (pc := 31) dX4_take_31 rfl ?_
      refine v_iload_n (pc := 32) dX4_take_32 rfl ?_
      refine v_callV (pc := 33) (As := [.int v2]) (cPage_checkOf l G c0 hc0 v2 M) zc_X4_checkOf zk4 rfl hc0.1 tw_713 (by decide) (Nat.le_of_ble_eq_true rfl) dX4_take_33 (fun r2 M1 => ?_)
      refine v_iast (pc := 36) hc0.2.1 dX4_take_36 (fun M3 => ?_)
      refine v_iinc (pc := 37) 1 dX4_take_37 rfl (by decide) (by decide) ?_
      refine v_goto (pc := 40) 15 dX4_take_40 (by decide) ?_
      exact v_sub (ih c0 hc0 (v2 + 1) M3) rfl
theorem wPage_take (l : Launch) (G : zG) (c0 : Nat) (hc0 : zPg c0) (c1 : Nat) (hc1 : zN c1) (M : zM) : zV eV l G zLX zRX 4 yX4_take cX4_take 3 none 0 [(0, .ref c0), (1, .ref c1)] [] M (fPage_take c0 c1 M) := by
  rw [fPage_take]
  refine v_aload_n (pc := 0) dX4_take_0 rfl ?_
  refine v_iconst (pc := 1) 1 dX4_take_1 (by decide) ?_
  refine v_putI (pc := 2) (q := 0) zk4 hc0.1 rfl tw_289 rfl (by decide) (by decide) dX4_take_2 (fun M1 => ?_)
  refine v_aload_n (pc := 5) dX4_take_5 rfl ?_
  refine v_getR (pc := 6) (q := 1) zk4 hc0.1 rfl hc0.2.2.1 tw_291 dX4_take_6 ?_
  refine v_aload_n (pc := 9) dX4_take_9 rfl ?_
  refine v_callV (pc := 10) (As := [.ref c1]) (cNames_copy l G (c0 + 2) hc0.2.2.2.2 c1 hc1 M1) zc_X2_copy zk2 rfl hc0.2.2.2.2.1 tw_707 (by decide) (Nat.le_of_ble_eq_true rfl) dX4_take_10 (fun _ M2 => ?_)
  skip
  refine v_iconst (pc := 13) 0 dX4_take_13 (by decide) ?_
  refine v_istore_n (pc := 14) dX4_take_14 (by decide) ?_
  exact v_sub (wPage_take_15 l G FU c0 hc0 0 M2) rfl
theorem cPage_take (l : Launch) (G : zG) (c0 : Nat) (hc0 : zPg c0) (c1 : Nat) (hc1 : zN c1) (M : zM) : zC eV l G zLX zRX 4 yX4_take cX4_take 3 none [.ref c0, .ref c1] M (fPage_take c0 c1 M) := zC.of (by decide) (Nat.le_of_ble_eq_true rfl) (v_sub (wPage_take l G c0 hc0 c1 hc1 M) rfl)
theorem dX4_isRight_0 : decode cX4_isRight 0 = .ok (.aload_n 0, 1) := by decide +kernel
theorem dX4_isRight_1 : decode cX4_isRight 1 = .ok (.getfield 15, 3) := by decide +kernel
theorem dX4_isRight_4 : decode cX4_isRight 4 = .ok (.iload_n 1, 1) := by decide +kernel
theorem dX4_isRight_5 : decode cX4_isRight 5 = .ok (.iaload, 1) := by decide +kernel
theorem dX4_isRight_6 : decode cX4_isRight 6 = .ok (.aload_n 0, 1) := by decide +kernel
theorem dX4_isRight_7 : decode cX4_isRight 7 = .ok (.iload_n 1, 1) := by decide +kernel
theorem dX4_isRight_8 : decode cX4_isRight 8 = .ok (.invokevirtual 36, 3) := by decide +kernel
theorem dX4_isRight_11 : decode cX4_isRight 11 = .ok (.if_icmp .ne 7, 3) := by decide +kernel
theorem dX4_isRight_14 : decode cX4_isRight 14 = .ok (.iconst 1, 1) := by decide +kernel
theorem dX4_isRight_15 : decode cX4_isRight 15 = .ok (.goto 4, 3) := by decide +kernel
theorem dX4_isRight_18 : decode cX4_isRight 18 = .ok (.iconst 0, 1) := by decide +kernel
theorem dX4_isRight_19 : decode cX4_isRight 19 = .ok (.ireturn, 1) := by decide +kernel
theorem wPage_isRight (l : Launch) (G : zG) (c0 : Nat) (hc0 : zPg c0) (v1 : Int32) (M : zM) : zV eI l G zLX zRX 3 yX4_isRight cX4_isRight 2 (some .boolean) 0 [(0, .ref c0), (1, .int v1)] [] M (fPage_isRight c0 v1 M) := by
  rw [fPage_isRight]
  refine v_aload_n (pc := 0) dX4_isRight_0 rfl ?_
  refine v_getR (pc := 1) (q := 2) zk4 hc0.1 rfl hc0.2.2.2.1 tw_293 dX4_isRight_1 ?_
  refine v_iload_n (pc := 4) dX4_isRight_4 rfl ?_
  refine v_iald (pc := 5) hc0.2.1 dX4_isRight_5 (fun x1 => ?_)
  refine v_aload_n (pc := 6) dX4_isRight_6 rfl ?_
  refine v_iload_n (pc := 7) dX4_isRight_7 rfl ?_
  refine v_callV (pc := 8) (As := [.int v1]) (cPage_checkOf l G c0 hc0 v1 M) zc_X4_checkOf zk4 rfl hc0.1 tw_713 (by decide) (Nat.le_of_ble_eq_true rfl) dX4_isRight_8 (fun r3 M2 => ?_)
  refine v_icmp_ne (pc := 11) 18 dX4_isRight_11 (by decide) ?_ ?_
  · refine v_iconst (pc := 18) 0 dX4_isRight_18 (by decide) ?_
    exact v_zret (pc := 19) dX4_isRight_19
  · refine v_iconst (pc := 14) 1 dX4_isRight_14 (by decide) ?_
    refine v_goto (pc := 15) 19 dX4_isRight_15 (by decide) ?_
    exact v_zret (pc := 19) dX4_isRight_19
theorem cPage_isRight (l : Launch) (G : zG) (c0 : Nat) (hc0 : zPg c0) (v1 : Int32) (M : zM) : zC eI l G zLX zRX 3 yX4_isRight cX4_isRight 2 (some .boolean) [.ref c0, .int v1] M (fPage_isRight c0 v1 M) := zC.of (by decide) (Nat.le_of_ble_eq_true rfl) (v_sub (wPage_isRight l G c0 hc0 v1 M) rfl)
theorem dX4_wrongChecks_0 : decode cX4_wrongChecks 0 = .ok (.iconst 0, 1) := by decide +kernel
theorem dX4_wrongChecks_1 : decode cX4_wrongChecks 1 = .ok (.istore_n 1, 1) := by decide +kernel
theorem dX4_wrongChecks_2 : decode cX4_wrongChecks 2 = .ok (.iconst 0, 1) := by decide +kernel
theorem dX4_wrongChecks_3 : decode cX4_wrongChecks 3 = .ok (.istore_n 2, 1) := by decide +kernel
theorem dX4_wrongChecks_4 : decode cX4_wrongChecks 4 = .ok (.iload_n 2, 1) := by decide +kernel
theorem dX4_wrongChecks_5 : decode cX4_wrongChecks 5 = .ok (.aload_n 0, 1) := by decide +kernel
theorem dX4_wrongChecks_6 : decode cX4_wrongChecks 6 = .ok (.getfield 24, 3) := by decide +kernel
theorem dX4_wrongChecks_9 : decode cX4_wrongChecks 9 = .ok (.getfield 28, 3) := by decide +kernel
theorem dX4_wrongChecks_12 : decode cX4_wrongChecks 12 = .ok (.if_icmp .ge 25, 3) := by decide +kernel
theorem dX4_wrongChecks_15 : decode cX4_wrongChecks 15 = .ok (.iload_n 1, 1) := by decide +kernel
theorem dX4_wrongChecks_16 : decode cX4_wrongChecks 16 = .ok (.aload_n 0, 1) := by decide +kernel
theorem dX4_wrongChecks_17 : decode cX4_wrongChecks 17 = .ok (.iload_n 2, 1) := by decide +kernel
theorem dX4_wrongChecks_18 : decode cX4_wrongChecks 18 = .ok (.invokevirtual 40, 3) := by decide +kernel
theorem dX4_wrongChecks_21 : decode cX4_wrongChecks 21 = .ok (.ifCond .eq 7, 3) := by decide +kernel
theorem dX4_wrongChecks_24 : decode cX4_wrongChecks 24 = .ok (.iconst 0, 1) := by decide +kernel
theorem dX4_wrongChecks_25 : decode cX4_wrongChecks 25 = .ok (.goto 4, 3) := by decide +kernel
theorem dX4_wrongChecks_28 : decode cX4_wrongChecks 28 = .ok (.iconst 1, 1) := by decide +kernel
theorem dX4_wrongChecks_29 : decode cX4_wrongChecks 29 = .ok (.iadd, 1) := by decide +kernel
theorem dX4_wrongChecks_30 : decode cX4_wrongChecks 30 = .ok (.istore_n 1, 1) := by decide +kernel
theorem dX4_wrongChecks_31 : decode cX4_wrongChecks 31 = .ok (.iinc 2 1, 3) := by decide +kernel
theorem dX4_wrongChecks_34 : decode cX4_wrongChecks 34 = .ok (.goto (-30), 3) := by decide +kernel
theorem dX4_wrongChecks_37 : decode cX4_wrongChecks 37 = .ok (.iload_n 1, 1) := by decide +kernel
theorem dX4_wrongChecks_38 : decode cX4_wrongChecks 38 = .ok (.ireturn, 1) := by decide +kernel
theorem wPage_wrongChecks_4 (l : Launch) (G : zG) : ∀ (fuel : Nat) (c0 : Nat) (hc0 : zPg c0) (v1 : Int32) (v2 : Int32) (M : zM), zV eI l G zLX zRX 4 yX4_wrongChecks cX4_wrongChecks 3 (some .int) 4 [(0, .ref c0), (1, .int v1), (2, .int v2)] [] M (fPage_wrongChecks_4 fuel c0 v1 v2 M) := by
  intro fuel
  induction fuel with
  | zero => intro c0 hc0 v1 v2 M; exact v_none
  | succ fuel ih =>
    intro c0 hc0 v1 v2 M
    rw [fPage_wrongChecks_4]
    refine v_iload_n (pc := 4) dX4_wrongChecks_4 rfl ?_
    refine v_aload_n (pc := 5) dX4_wrongChecks_5 rfl ?_
    refine v_getR (pc := 6) (q := 1) zk4 hc0.1 rfl hc0.2.2.1 tw_291 dX4_wrongChecks_6 ?_
    refine v_getI (pc := 9) (q := 2) zk2 hc0.2.2.2.2.1 rfl tw_233 dX4_wrongChecks_9 ?_
    refine v_icmp_ge (pc := 12) 37 dX4_wrongChecks_12 (by decide) ?_ ?_
    · refine v_iload_n (pc := 37) dX4_wrongChecks_37 rfl ?_
      exact v_iret (pc := 38) dX4_wrongChecks_38
    · refine v_iload_n (pc := 15) dX4_wrongChecks_15 rfl ?_
      refine v_aload_n (pc := 16) dX4_wrongChecks_16 rfl ?_
      refine v_iload_n (pc := 17) dX4_wrongChecks_17 rfl ?_
      refine v_callV (pc := 18) (As := [.int v2]) (cPage_isRight l G c0 hc0 v2 M) zc_X4_isRight zk4 rfl hc0.1 tw_759 (by decide) (Nat.le_of_ble_eq_true rfl) dX4_wrongChecks_18 (fun r2 M1 => ?_)
      refine v_if_eq (pc := 21) 28 dX4_wrongChecks_21 (by decide) ?_ ?_
      · refine v_iconst (pc := 28) 1 dX4_wrongChecks_28 (by decide) ?_
        refine v_iadd (pc := 29) dX4_wrongChecks_29 ?_
        refine v_istore_nL (pc := 30) dX4_wrongChecks_30 (by decide) (fun u1_30 => ?_)
        refine v_iinc (pc := 31) 1 dX4_wrongChecks_31 rfl (by decide) (by decide) ?_
        refine v_goto (pc := 34) 4 dX4_wrongChecks_34 (by decide) ?_
        exact v_sub (ih c0 hc0 u1_30 (v2 + 1) M1) rfl
      · refine v_iconst (pc := 24) 0 dX4_wrongChecks_24 (by decide) ?_
        refine v_goto (pc := 25) 29 dX4_wrongChecks_25 (by decide) ?_
        refine v_iadd (pc := 29) dX4_wrongChecks_29 ?_
        refine v_istore_nL (pc := 30) dX4_wrongChecks_30 (by decide) (fun u1_30 => ?_)
        refine v_iinc (pc := 31) 1 dX4_wrongChecks_31 rfl (by decide) (by decide) ?_
        refine v_goto (pc := 34) 4 dX4_wrongChecks_34 (by decide) ?_
        exact v_sub (ih c0 hc0 u1_30 (v2 + 1) M1) rfl
theorem wPage_wrongChecks (l : Launch) (G : zG) (c0 : Nat) (hc0 : zPg c0) (M : zM) : zV eI l G zLX zRX 4 yX4_wrongChecks cX4_wrongChecks 3 (some .int) 0 [(0, .ref c0)] [] M (fPage_wrongChecks c0 M) := by
  rw [fPage_wrongChecks]
  refine v_iconst (pc := 0) 0 dX4_wrongChecks_0 (by decide) ?_
  refine v_istore_n (pc := 1) dX4_wrongChecks_1 (by decide) ?_
  refine v_iconst (pc := 2) 0 dX4_wrongChecks_2 (by decide) ?_
  refine v_istore_n (pc := 3) dX4_wrongChecks_3 (by decide) ?_
  exact v_sub (wPage_wrongChecks_4 l G FU c0 hc0 0 0 M) rfl
theorem cPage_wrongChecks (l : Launch) (G : zG) (c0 : Nat) (hc0 : zPg c0) (M : zM) : zC eI l G zLX zRX 4 yX4_wrongChecks cX4_wrongChecks 3 (some .int) [.ref c0] M (fPage_wrongChecks c0 M) := zC.of (by decide) (Nat.le_of_ble_eq_true rfl) (v_sub (wPage_wrongChecks l G c0 hc0 M) rfl)
theorem dX4_unlike_0 : decode cX4_unlike 0 = .ok (.iconst 0, 1) := by decide +kernel
theorem dX4_unlike_1 : decode cX4_unlike 1 = .ok (.istore_n 2, 1) := by decide +kernel
theorem dX4_unlike_2 : decode cX4_unlike 2 = .ok (.iconst 0, 1) := by decide +kernel
theorem dX4_unlike_3 : decode cX4_unlike 3 = .ok (.istore_n 3, 1) := by decide +kernel
theorem dX4_unlike_4 : decode cX4_unlike 4 = .ok (.iload_n 3, 1) := by decide +kernel
theorem dX4_unlike_5 : decode cX4_unlike 5 = .ok (.aload_n 0, 1) := by decide +kernel
theorem dX4_unlike_6 : decode cX4_unlike 6 = .ok (.getfield 24, 3) := by decide +kernel
theorem dX4_unlike_9 : decode cX4_unlike 9 = .ok (.getfield 28, 3) := by decide +kernel
theorem dX4_unlike_12 : decode cX4_unlike 12 = .ok (.aload_n 1, 1) := by decide +kernel
theorem dX4_unlike_13 : decode cX4_unlike 13 = .ok (.getfield 28, 3) := by decide +kernel
theorem dX4_unlike_16 : decode cX4_unlike 16 = .ok (.invokestatic 44, 3) := by decide +kernel
theorem dX4_unlike_19 : decode cX4_unlike 19 = .ok (.if_icmp .ge 27, 3) := by decide +kernel
theorem dX4_unlike_22 : decode cX4_unlike 22 = .ok (.aload_n 0, 1) := by decide +kernel
theorem dX4_unlike_23 : decode cX4_unlike 23 = .ok (.getfield 24, 3) := by decide +kernel
theorem dX4_unlike_26 : decode cX4_unlike 26 = .ok (.aload_n 1, 1) := by decide +kernel
theorem dX4_unlike_27 : decode cX4_unlike 27 = .ok (.iload_n 3, 1) := by decide +kernel
theorem dX4_unlike_28 : decode cX4_unlike 28 = .ok (.invokevirtual 50, 3) := by decide +kernel
theorem dX4_unlike_31 : decode cX4_unlike 31 = .ok (.ifCond .ne 9, 3) := by decide +kernel
theorem dX4_unlike_34 : decode cX4_unlike 34 = .ok (.iload_n 2, 1) := by decide +kernel
theorem dX4_unlike_35 : decode cX4_unlike 35 = .ok (.iconst 1, 1) := by decide +kernel
theorem dX4_unlike_36 : decode cX4_unlike 36 = .ok (.iload_n 3, 1) := by decide +kernel
theorem dX4_unlike_37 : decode cX4_unlike 37 = .ok (.ishl, 1) := by decide +kernel
theorem dX4_unlike_38 : decode cX4_unlike 38 = .ok (.ior, 1) := by decide +kernel
theorem dX4_unlike_39 : decode cX4_unlike 39 = .ok (.istore_n 2, 1) := by decide +kernel
theorem dX4_unlike_40 : decode cX4_unlike 40 = .ok (.iinc 3 1, 3) := by decide +kernel
theorem dX4_unlike_43 : decode cX4_unlike 43 = .ok (.goto (-39), 3) := by decide +kernel
theorem dX4_unlike_46 : decode cX4_unlike 46 = .ok (.iload_n 2, 1) := by decide +kernel
theorem dX4_unlike_47 : decode cX4_unlike 47 = .ok (.ireturn, 1) := by decide +kernel
theorem wPage_unlike_4 (l : Launch) (G : zG) : ∀ (fuel : Nat) (c0 : Nat) (hc0 : zPg c0) (c1 : Nat) (hc1 : zN c1) (v2 : Int32) (v3 : Int32) (M : zM), zV eI l G zLX zRX 3 yX4_unlike cX4_unlike 4 (some .int) 4 [(0, .ref c0), (1, .ref c1), (2, .int v2), (3, .int v3)] [] M (fPage_unlike_4 fuel c0 c1 v2 v3 M) := by
  intro fuel
  induction fuel with
  | zero => intro c0 hc0 c1 hc1 v2 v3 M; exact v_none
  | succ fuel ih =>
    intro c0 hc0 c1 hc1 v2 v3 M
    rw [fPage_unlike_4]
    refine v_iload_n (pc := 4) dX4_unlike_4 rfl ?_
    refine v_aload_n (pc := 5) dX4_unlike_5 rfl ?_
    refine v_getR (pc := 6) (q := 1) zk4 hc0.1 rfl hc0.2.2.1 tw_291 dX4_unlike_6 ?_
    refine v_getI (pc := 9) (q := 2) zk2 hc0.2.2.2.2.1 rfl tw_233 dX4_unlike_9 ?_
    refine v_aload_n (pc := 12) dX4_unlike_12 rfl ?_
    refine v_getI (pc := 13) (q := 2) zk2 hc1.1 rfl tw_233 dX4_unlike_13 ?_
    refine v_mmax (pc := 16) tw_698 (by decide) (Nat.le_of_ble_eq_true rfl) dX4_unlike_16 ?_
    refine v_icmp_ge (pc := 19) 46 dX4_unlike_19 (by decide) ?_ ?_
    · refine v_iload_n (pc := 46) dX4_unlike_46 rfl ?_
      exact v_iret (pc := 47) dX4_unlike_47
    · refine v_aload_n (pc := 22) dX4_unlike_22 rfl ?_
      refine v_getR (pc := 23) (q := 1) zk4 hc0.1 rfl hc0.2.2.1 tw_291 dX4_unlike_23 ?_
      refine v_aload_n (pc := 26) dX4_unlike_26 rfl ?_
      refine v_iload_n (pc := 27) dX4_unlike_27 rfl ?_
      refine v_callV (pc := 28) (As := [.ref c1, .int v3]) (cNames_isLike l G (c0 + 2) hc0.2.2.2.2 c1 hc1 v3 M) zc_X2_isLike zk2 rfl hc0.2.2.2.2.1 tw_699 (by decide) (Nat.le_of_ble_eq_true rfl) dX4_unlike_28 (fun r2 M1 => ?_)
      refine v_if_ne (pc := 31) 40 dX4_unlike_31 (by decide) ?_ ?_
      · refine v_iinc (pc := 40) 1 dX4_unlike_40 rfl (by decide) (by decide) ?_
        refine v_goto (pc := 43) 4 dX4_unlike_43 (by decide) ?_
        exact v_sub (ih c0 hc0 c1 hc1 v2 (v3 + 1) M1) rfl
      · refine v_iload_n (pc := 34) dX4_unlike_34 rfl ?_
        refine v_iconst (pc := 35) 1 dX4_unlike_35 (by decide) ?_
        refine v_iload_n (pc := 36) dX4_unlike_36 rfl ?_
        refine v_ishl (pc := 37) dX4_unlike_37 ?_
        refine v_ior (pc := 38) dX4_unlike_38 ?_
        refine v_istore_nL (pc := 39) dX4_unlike_39 (by decide) (fun u2_39 => ?_)
        refine v_iinc (pc := 40) 1 dX4_unlike_40 rfl (by decide) (by decide) ?_
        refine v_goto (pc := 43) 4 dX4_unlike_43 (by decide) ?_
        exact v_sub (ih c0 hc0 c1 hc1 u2_39 (v3 + 1) M1) rfl
theorem wPage_unlike (l : Launch) (G : zG) (c0 : Nat) (hc0 : zPg c0) (c1 : Nat) (hc1 : zN c1) (M : zM) : zV eI l G zLX zRX 3 yX4_unlike cX4_unlike 4 (some .int) 0 [(0, .ref c0), (1, .ref c1)] [] M (fPage_unlike c0 c1 M) := by
  rw [fPage_unlike]
  refine v_iconst (pc := 0) 0 dX4_unlike_0 (by decide) ?_
  refine v_istore_n (pc := 1) dX4_unlike_1 (by decide) ?_
  refine v_iconst (pc := 2) 0 dX4_unlike_2 (by decide) ?_
  refine v_istore_n (pc := 3) dX4_unlike_3 (by decide) ?_
  exact v_sub (wPage_unlike_4 l G FU c0 hc0 c1 hc1 0 0 M) rfl
theorem cPage_unlike (l : Launch) (G : zG) (c0 : Nat) (hc0 : zPg c0) (c1 : Nat) (hc1 : zN c1) (M : zM) : zC eI l G zLX zRX 3 yX4_unlike cX4_unlike 4 (some .int) [.ref c0, .ref c1] M (fPage_unlike c0 c1 M) := zC.of (by decide) (Nat.le_of_ble_eq_true rfl) (v_sub (wPage_unlike l G c0 hc0 c1 hc1 M) rfl)
