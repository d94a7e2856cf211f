theorem dX1_nameAbove_0 : decode cX1_nameAbove 0 = .ok (.aload_n 0, 1) := by decide +kernel
theorem dX1_nameAbove_1 : decode cX1_nameAbove 1 = .ok (.getfield 43, 3) := by decide +kernel
theorem dX1_nameAbove_4 : decode cX1_nameAbove 4 = .ok (.invokevirtual 76, 3) := by decide +kernel
theorem dX1_nameAbove_7 : decode cX1_nameAbove 7 = .ok (.astore_n 2, 1) := by decide +kernel
theorem dX1_nameAbove_8 : decode cX1_nameAbove 8 = .ok (.iconst 0, 1) := by decide +kernel
theorem dX1_nameAbove_9 : decode cX1_nameAbove 9 = .ok (.istore_n 3, 1) := by decide +kernel
theorem dX1_nameAbove_10 : decode cX1_nameAbove 10 = .ok (.iload_n 3, 1) := by decide +kernel
theorem dX1_nameAbove_11 : decode cX1_nameAbove 11 = .ok (.aload_n 0, 1) := by decide +kernel
theorem dX1_nameAbove_12 : decode cX1_nameAbove 12 = .ok (.getfield 39, 3) := by decide +kernel
theorem dX1_nameAbove_15 : decode cX1_nameAbove 15 = .ok (.getfield 56, 3) := by decide +kernel
theorem dX1_nameAbove_18 : decode cX1_nameAbove 18 = .ok (.if_icmp .ge 31, 3) := by decide +kernel
theorem dX1_nameAbove_21 : decode cX1_nameAbove 21 = .ok (.aload_n 1, 1) := by decide +kernel
theorem dX1_nameAbove_22 : decode cX1_nameAbove 22 = .ok (.iload_n 3, 1) := by decide +kernel
theorem dX1_nameAbove_23 : decode cX1_nameAbove 23 = .ok (.aload_n 2, 1) := by decide +kernel
theorem dX1_nameAbove_24 : decode cX1_nameAbove 24 = .ok (.getfield 82, 3) := by decide +kernel
theorem dX1_nameAbove_27 : decode cX1_nameAbove 27 = .ok (.iload_n 3, 1) := by decide +kernel
theorem dX1_nameAbove_28 : decode cX1_nameAbove 28 = .ok (.iaload, 1) := by decide +kernel
theorem dX1_nameAbove_29 : decode cX1_nameAbove 29 = .ok (.invokevirtual 85, 3) := by decide +kernel
theorem dX1_nameAbove_32 : decode cX1_nameAbove 32 = .ok (.aload_n 1, 1) := by decide +kernel
theorem dX1_nameAbove_33 : decode cX1_nameAbove 33 = .ok (.iload_n 3, 1) := by decide +kernel
theorem dX1_nameAbove_34 : decode cX1_nameAbove 34 = .ok (.aload_n 2, 1) := by decide +kernel
theorem dX1_nameAbove_35 : decode cX1_nameAbove 35 = .ok (.getfield 89, 3) := by decide +kernel
theorem dX1_nameAbove_38 : decode cX1_nameAbove 38 = .ok (.iload_n 3, 1) := by decide +kernel
theorem dX1_nameAbove_39 : decode cX1_nameAbove 39 = .ok (.iaload, 1) := by decide +kernel
theorem dX1_nameAbove_40 : decode cX1_nameAbove 40 = .ok (.invokevirtual 85, 3) := by decide +kernel
theorem dX1_nameAbove_43 : decode cX1_nameAbove 43 = .ok (.iinc 3 1, 3) := by decide +kernel
theorem dX1_nameAbove_46 : decode cX1_nameAbove 46 = .ok (.goto (-36), 3) := by decide +kernel
theorem dX1_nameAbove_49 : decode cX1_nameAbove 49 = .ok (.return_, 1) := by decide +kernel
theorem wLabels_nameAbove_10 (l : Launch) (G : zG) : ∀ (fuel : Nat) (c1 : Nat) (hc1 : zN c1) (v3 : Int32) (M : zM), zV eV l G zLX zRX 4 yX1_nameAbove cX1_nameAbove 4 none 10 [(0, .ref 14), (1, .ref c1), (2, .ref 5), (3, .int v3)] [] M (fLabels_nameAbove_10 fuel c1 v3 M) := by
  intro fuel
  induction fuel with
  | zero => intro c1 hc1 v3 M; exact v_none
  | succ fuel ih =>
    intro c1 hc1 v3 M
    rw [fLabels_nameAbove_10]
    refine v_iload_n (pc := 10) dX1_nameAbove_10 rfl ?_
    refine v_aload_n (pc := 11) dX1_nameAbove_11 rfl ?_
    refine v_getR (pc := 12) (q := 0) zk1 lx_14 rfl rx_14_0 tw_249 dX1_nameAbove_12 ?_
    refine v_getI (pc := 15) (q := 0) zk3 lx_1 rfl tw_116 dX1_nameAbove_15 ?_
    refine v_icmp_ge (pc := 18) 49 dX1_nameAbove_18 (by decide) ?_ ?_
    · exact v_vret (pc := 49) dX1_nameAbove_49
    · refine v_aload_n (pc := 21) dX1_nameAbove_21 rfl ?_
      refine v_iload_n (pc := 22) dX1_nameAbove_22 rfl ?_
      refine v_aload_n (pc := 23) dX1_nameAbove_23 rfl ?_
      refine v_getR (pc := 24) (q := 6) zk8 lx_5 rfl rx_5_6 tw_177 dX1_nameAbove_24 ?_
      refine v_iload_n (pc := 27) dX1_nameAbove_27 rfl ?_
      refine v_iald (pc := 28) lx_9 dX1_nameAbove_28 (fun x1 => ?_)
      refine v_callV (pc := 29) (As := [.int v3, .int x1]) (cNames_append l G c1 hc1 v3 x1 M) zc_X2_append zk2 rfl hc1.1 tw_591 (by decide) (Nat.le_of_ble_eq_true rfl) dX1_nameAbove_29 (fun _ M2 => ?_)
      skip
      refine v_aload_n (pc := 32) dX1_nameAbove_32 rfl ?_
      refine v_iload_n (pc := 33) dX1_nameAbove_33 rfl ?_
      refine v_aload_n (pc := 34) dX1_nameAbove_34 rfl ?_
      refine v_getR (pc := 35) (q := 7) zk8 lx_5 rfl rx_5_7 tw_179 dX1_nameAbove_35 ?_
      refine v_iload_n (pc := 38) dX1_nameAbove_38 rfl ?_
      refine v_iald (pc := 39) lx_10 dX1_nameAbove_39 (fun x3 => ?_)
      refine v_callV (pc := 40) (As := [.int v3, .int x3]) (cNames_append l G c1 hc1 v3 x3 M2) zc_X2_append zk2 rfl hc1.1 tw_591 (by decide) (Nat.le_of_ble_eq_true rfl) dX1_nameAbove_40 (fun _ M4 => ?_)
      skip
      refine v_iinc (pc := 43) 1 dX1_nameAbove_43 rfl (by decide) (by decide) ?_
      refine v_goto (pc := 46) 10 dX1_nameAbove_46 (by decide) ?_
      exact v_sub (ih c1 hc1 (v3 + 1) M4) rfl
theorem wLabels_nameAbove (l : Launch) (G : zG) (c1 : Nat) (hc1 : zN c1) (M : zM) : zV eV l G zLX zRX 4 yX1_nameAbove cX1_nameAbove 4 none 0 [(0, .ref 14), (1, .ref c1)] [] M (fLabels_nameAbove c1 M) := by
  rw [fLabels_nameAbove]
  refine v_aload_n (pc := 0) dX1_nameAbove_0 rfl ?_
  refine v_getR (pc := 1) (q := 1) zk1 lx_14 rfl rx_14_1 tw_250 dX1_nameAbove_1 ?_
  refine v_callV (pc := 4) (As := []) (cTree_fresh l G  M) zc_X8_fresh zk8 rfl lx_5 tw_590 (by decide) (Nat.le_of_ble_eq_true rfl) dX1_nameAbove_4 (fun r2 M1 => ?_)
  refine v_ifP (fun hgr2 => ?_)
  subst hgr2
  refine v_astore_n (pc := 7) dX1_nameAbove_7 (by decide) ?_
  refine v_iconst (pc := 8) 0 dX1_nameAbove_8 (by decide) ?_
  refine v_istore_n (pc := 9) dX1_nameAbove_9 (by decide) ?_
  exact v_sub (wLabels_nameAbove_10 l G FU c1 hc1 0 M1) rfl
theorem cLabels_nameAbove (l : Launch) (G : zG) (c1 : Nat) (hc1 : zN c1) (M : zM) : zC eV l G zLX zRX 4 yX1_nameAbove cX1_nameAbove 4 none [.ref 14, .ref c1] M (fLabels_nameAbove c1 M) := zC.of (by decide) (Nat.le_of_ble_eq_true rfl) (v_sub (wLabels_nameAbove l G c1 hc1 M) rfl)
theorem dX1_fewestLines_0 : decode cX1_fewestLines 0 = .ok (.iconst 0, 1) := by decide +kernel
theorem dX1_fewestLines_1 : decode cX1_fewestLines 1 = .ok (.istore_n 2, 1) := by decide +kernel
theorem dX1_fewestLines_2 : decode cX1_fewestLines 2 = .ok (.bipush 12, 2) := by decide +kernel
theorem dX1_fewestLines_4 : decode cX1_fewestLines 4 = .ok (.istore_n 3, 1) := by decide +kernel
theorem dX1_fewestLines_5 : decode cX1_fewestLines 5 = .ok (.iconst 0, 1) := by decide +kernel
theorem dX1_fewestLines_6 : decode cX1_fewestLines 6 = .ok (.istore 4, 2) := by decide +kernel
theorem dX1_fewestLines_8 : decode cX1_fewestLines 8 = .ok (.iload 4, 2) := by decide +kernel
theorem dX1_fewestLines_10 : decode cX1_fewestLines 10 = .ok (.aload_n 0, 1) := by decide +kernel
theorem dX1_fewestLines_11 : decode cX1_fewestLines 11 = .ok (.getfield 39, 3) := by decide +kernel
theorem dX1_fewestLines_14 : decode cX1_fewestLines 14 = .ok (.getfield 56, 3) := by decide +kernel
theorem dX1_fewestLines_17 : decode cX1_fewestLines 17 = .ok (.if_icmp .ge 48, 3) := by decide +kernel
theorem dX1_fewestLines_20 : decode cX1_fewestLines 20 = .ok (.aload_n 0, 1) := by decide +kernel
theorem dX1_fewestLines_21 : decode cX1_fewestLines 21 = .ok (.getfield 39, 3) := by decide +kernel
theorem dX1_fewestLines_24 : decode cX1_fewestLines 24 = .ok (.getfield 100, 3) := by decide +kernel
theorem dX1_fewestLines_27 : decode cX1_fewestLines 27 = .ok (.iload 4, 2) := by decide +kernel
theorem dX1_fewestLines_29 : decode cX1_fewestLines 29 = .ok (.iaload, 1) := by decide +kernel
theorem dX1_fewestLines_30 : decode cX1_fewestLines 30 = .ok (.iload_n 1, 1) := by decide +kernel
theorem dX1_fewestLines_31 : decode cX1_fewestLines 31 = .ok (.iand, 1) := by decide +kernel
theorem dX1_fewestLines_32 : decode cX1_fewestLines 32 = .ok (.invokestatic 103, 3) := by decide +kernel
theorem dX1_fewestLines_35 : decode cX1_fewestLines 35 = .ok (.istore 5, 2) := by decide +kernel
theorem dX1_fewestLines_37 : decode cX1_fewestLines 37 = .ok (.iload_n 1, 1) := by decide +kernel
theorem dX1_fewestLines_38 : decode cX1_fewestLines 38 = .ok (.iload 4, 2) := by decide +kernel
theorem dX1_fewestLines_40 : decode cX1_fewestLines 40 = .ok (.ishr, 1) := by decide +kernel
theorem dX1_fewestLines_41 : decode cX1_fewestLines 41 = .ok (.iconst 1, 1) := by decide +kernel
theorem dX1_fewestLines_42 : decode cX1_fewestLines 42 = .ok (.iand, 1) := by decide +kernel
theorem dX1_fewestLines_43 : decode cX1_fewestLines 43 = .ok (.iconst 1, 1) := by decide +kernel
theorem dX1_fewestLines_44 : decode cX1_fewestLines 44 = .ok (.if_icmp .ne 15, 3) := by decide +kernel
theorem dX1_fewestLines_47 : decode cX1_fewestLines 47 = .ok (.iload 5, 2) := by decide +kernel
theorem dX1_fewestLines_49 : decode cX1_fewestLines 49 = .ok (.iload_n 3, 1) := by decide +kernel
theorem dX1_fewestLines_50 : decode cX1_fewestLines 50 = .ok (.if_icmp .ge 9, 3) := by decide +kernel
theorem dX1_fewestLines_53 : decode cX1_fewestLines 53 = .ok (.iload 4, 2) := by decide +kernel
theorem dX1_fewestLines_55 : decode cX1_fewestLines 55 = .ok (.istore_n 2, 1) := by decide +kernel
theorem dX1_fewestLines_56 : decode cX1_fewestLines 56 = .ok (.iload 5, 2) := by decide +kernel
theorem dX1_fewestLines_58 : decode cX1_fewestLines 58 = .ok (.istore_n 3, 1) := by decide +kernel
theorem dX1_fewestLines_59 : decode cX1_fewestLines 59 = .ok (.iinc 4 1, 3) := by decide +kernel
theorem dX1_fewestLines_62 : decode cX1_fewestLines 62 = .ok (.goto (-54), 3) := by decide +kernel
theorem dX1_fewestLines_65 : decode cX1_fewestLines 65 = .ok (.iload_n 2, 1) := by decide +kernel
theorem dX1_fewestLines_66 : decode cX1_fewestLines 66 = .ok (.ireturn, 1) := by decide +kernel
theorem wLabels_fewestLines_8 (l : Launch) (G : zG) : ∀ (fuel : Nat) (v1 : Int32) (v2 : Int32) (v3 : Int32) (v4 : Int32) (M : zM), zV eI l G zLX zRX 2 yX1_fewestLines cX1_fewestLines 6 (some .int) 8 [(0, .ref 14), (1, .int v1), (2, .int v2), (3, .int v3), (4, .int v4)] [] M (fLabels_fewestLines_8 fuel v1 v2 v3 v4 M) := by
  intro fuel
  induction fuel with
  | zero => intro v1 v2 v3 v4 M; exact v_none
  | succ fuel ih =>
    intro v1 v2 v3 v4 M
    rw [fLabels_fewestLines_8]
    refine v_iload (pc := 8) dX1_fewestLines_8 rfl ?_
    refine v_aload_n (pc := 10) dX1_fewestLines_10 rfl ?_
    refine v_getR (pc := 11) (q := 0) zk1 lx_14 rfl rx_14_0 tw_249 dX1_fewestLines_11 ?_
    refine v_getI (pc := 14) (q := 0) zk3 lx_1 rfl tw_116 dX1_fewestLines_14 ?_
    refine v_icmp_ge (pc := 17) 65 dX1_fewestLines_17 (by decide) ?_ ?_
    · refine v_iload_n (pc := 65) dX1_fewestLines_65 rfl ?_
      exact v_iret (pc := 66) dX1_fewestLines_66
    · refine v_aload_n (pc := 20) dX1_fewestLines_20 rfl ?_
      refine v_getR (pc := 21) (q := 0) zk1 lx_14 rfl rx_14_0 tw_249 dX1_fewestLines_21 ?_
      refine v_getR (pc := 24) (q := 5) zk3 lx_1 rfl rx_1_5 tw_139 dX1_fewestLines_24 ?_
      refine v_iload (pc := 27) dX1_fewestLines_27 rfl ?_
      refine v_iald (pc := 29) lx_4 dX1_fewestLines_29 (fun x1 => ?_)
      refine v_iload_n (pc := 30) dX1_fewestLines_30 rfl ?_
      refine v_iand (pc := 31) dX1_fewestLines_31 ?_
      refine v_callS (pc := 32) (As := [.int (x1 &&& v1)]) (cJ6_bitCount l G (x1 &&& v1) M) zc_J6_bitCount_0f7a4 tw_603 (by decide) (Nat.le_of_ble_eq_true rfl) dX1_fewestLines_32 (fun r3 M2 => ?_)
      refine v_istore (pc := 35) dX1_fewestLines_35 (by decide) ?_
      refine v_iload_n (pc := 37) dX1_fewestLines_37 rfl ?_
      refine v_iload (pc := 38) dX1_fewestLines_38 rfl ?_
      refine v_ishr (pc := 40) dX1_fewestLines_40 ?_
      refine v_iconst (pc := 41) 1 dX1_fewestLines_41 (by decide) ?_
      refine v_iand (pc := 42) dX1_fewestLines_42 ?_
      refine v_iconst (pc := 43) 1 dX1_fewestLines_43 (by decide) ?_
      refine v_icmp_ne (pc := 44) 59 dX1_fewestLines_44 (by decide) ?_ ?_
      · refine v_iinc (pc := 59) 1 dX1_fewestLines_59 rfl (by decide) (by decide) ?_
        refine v_goto (pc := 62) 8 dX1_fewestLines_62 (by decide) ?_
        exact v_sub (ih v1 v2 v3 (v4 + 1) M2) rfl
      · refine v_iload (pc := 47) dX1_fewestLines_47 rfl ?_
        refine v_iload_n (pc := 49) dX1_fewestLines_49 rfl ?_
        refine v_icmp_ge (pc := 50) 59 dX1_fewestLines_50 (by decide) ?_ ?_
        · refine v_iinc (pc := 59) 1 dX1_fewestLines_59 rfl (by decide) (by decide) ?_
          refine v_goto (pc := 62) 8 dX1_fewestLines_62 (by decide) ?_
          exact v_sub (ih v1 v2 v3 (v4 + 1) M2) rfl
        · refine v_iload (pc := 53) dX1_fewestLines_53 rfl ?_
          refine v_istore_n (pc := 55) dX1_fewestLines_55 (by decide) ?_
          refine v_iload (pc := 56) dX1_fewestLines_56 rfl ?_
          refine v_istore_n (pc := 58) dX1_fewestLines_58 (by decide) ?_
          refine v_iinc (pc := 59) 1 dX1_fewestLines_59 rfl (by decide) (by decide) ?_
          refine v_goto (pc := 62) 8 dX1_fewestLines_62 (by decide) ?_
          exact v_sub (ih v1 v4 r3 (v4 + 1) M2) rfl
theorem wLabels_fewestLines (l : Launch) (G : zG) (v1 : Int32) (M : zM) : zV eI l G zLX zRX 2 yX1_fewestLines cX1_fewestLines 6 (some .int) 0 [(0, .ref 14), (1, .int v1)] [] M (fLabels_fewestLines v1 M) := by
  rw [fLabels_fewestLines]
  refine v_iconst (pc := 0) 0 dX1_fewestLines_0 (by decide) ?_
  refine v_istore_n (pc := 1) dX1_fewestLines_1 (by decide) ?_
  refine v_bipush (pc := 2) 12 dX1_fewestLines_2 (by decide) ?_
  refine v_istore_n (pc := 4) dX1_fewestLines_4 (by decide) ?_
  refine v_iconst (pc := 5) 0 dX1_fewestLines_5 (by decide) ?_
  refine v_istore (pc := 6) dX1_fewestLines_6 (by decide) ?_
  exact v_sub (wLabels_fewestLines_8 l G FU v1 0 12 0 M) rfl
theorem cLabels_fewestLines (l : Launch) (G : zG) (v1 : Int32) (M : zM) : zC eI l G zLX zRX 2 yX1_fewestLines cX1_fewestLines 6 (some .int) [.ref 14, .int v1] M (fLabels_fewestLines v1 M) := zC.of (by decide) (Nat.le_of_ble_eq_true rfl) (v_sub (wLabels_fewestLines l G v1 M) rfl)
theorem dX1_nameJoined_0 : decode cX1_nameJoined 0 = .ok (.iconst 1, 1) := by decide +kernel
theorem dX1_nameJoined_1 : decode cX1_nameJoined 1 = .ok (.aload_n 0, 1) := by decide +kernel
theorem dX1_nameJoined_2 : decode cX1_nameJoined 2 = .ok (.getfield 39, 3) := by decide +kernel
theorem dX1_nameJoined_5 : decode cX1_nameJoined 5 = .ok (.getfield 56, 3) := by decide +kernel
theorem dX1_nameJoined_8 : decode cX1_nameJoined 8 = .ok (.ishl, 1) := by decide +kernel
theorem dX1_nameJoined_9 : decode cX1_nameJoined 9 = .ok (.iconst 1, 1) := by decide +kernel
theorem dX1_nameJoined_10 : decode cX1_nameJoined 10 = .ok (.isub, 1) := by decide +kernel
theorem dX1_nameJoined_11 : decode cX1_nameJoined 11 = .ok (.istore_n 2, 1) := by decide +kernel
theorem dX1_nameJoined_12 : decode cX1_nameJoined 12 = .ok (.iconst 0, 1) := by decide +kernel
theorem dX1_nameJoined_13 : decode cX1_nameJoined 13 = .ok (.istore_n 3, 1) := by decide +kernel
theorem dX1_nameJoined_14 : decode cX1_nameJoined 14 = .ok (.iload_n 3, 1) := by decide +kernel
theorem dX1_nameJoined_15 : decode cX1_nameJoined 15 = .ok (.aload_n 0, 1) := by decide +kernel
theorem dX1_nameJoined_16 : decode cX1_nameJoined 16 = .ok (.getfield 39, 3) := by decide +kernel
theorem dX1_nameJoined_19 : decode cX1_nameJoined 19 = .ok (.getfield 56, 3) := by decide +kernel
theorem dX1_nameJoined_22 : decode cX1_nameJoined 22 = .ok (.if_icmp .ge 41, 3) := by decide +kernel
theorem dX1_nameJoined_25 : decode cX1_nameJoined 25 = .ok (.aload_n 0, 1) := by decide +kernel
theorem dX1_nameJoined_26 : decode cX1_nameJoined 26 = .ok (.iload_n 2, 1) := by decide +kernel
theorem dX1_nameJoined_27 : decode cX1_nameJoined 27 = .ok (.invokevirtual 92, 3) := by decide +kernel
theorem dX1_nameJoined_30 : decode cX1_nameJoined 30 = .ok (.istore 4, 2) := by decide +kernel
theorem dX1_nameJoined_32 : decode cX1_nameJoined 32 = .ok (.aload_n 0, 1) := by decide +kernel
theorem dX1_nameJoined_33 : decode cX1_nameJoined 33 = .ok (.getfield 21, 3) := by decide +kernel
theorem dX1_nameJoined_36 : decode cX1_nameJoined 36 = .ok (.iload 4, 2) := by decide +kernel
theorem dX1_nameJoined_38 : decode cX1_nameJoined 38 = .ok (.iload_n 3, 1) := by decide +kernel
theorem dX1_nameJoined_39 : decode cX1_nameJoined 39 = .ok (.iastore, 1) := by decide +kernel
theorem dX1_nameJoined_40 : decode cX1_nameJoined 40 = .ok (.aload_n 0, 1) := by decide +kernel
theorem dX1_nameJoined_41 : decode cX1_nameJoined 41 = .ok (.getfield 24, 3) := by decide +kernel
theorem dX1_nameJoined_44 : decode cX1_nameJoined 44 = .ok (.iload_n 3, 1) := by decide +kernel
theorem dX1_nameJoined_45 : decode cX1_nameJoined 45 = .ok (.iload 4, 2) := by decide +kernel
theorem dX1_nameJoined_47 : decode cX1_nameJoined 47 = .ok (.iastore, 1) := by decide +kernel
theorem dX1_nameJoined_48 : decode cX1_nameJoined 48 = .ok (.iload_n 2, 1) := by decide +kernel
theorem dX1_nameJoined_49 : decode cX1_nameJoined 49 = .ok (.iconst 1, 1) := by decide +kernel
theorem dX1_nameJoined_50 : decode cX1_nameJoined 50 = .ok (.iload 4, 2) := by decide +kernel
theorem dX1_nameJoined_52 : decode cX1_nameJoined 52 = .ok (.ishl, 1) := by decide +kernel
theorem dX1_nameJoined_53 : decode cX1_nameJoined 53 = .ok (.iconst (-1), 1) := by decide +kernel
theorem dX1_nameJoined_54 : decode cX1_nameJoined 54 = .ok (.ixor, 1) := by decide +kernel
theorem dX1_nameJoined_55 : decode cX1_nameJoined 55 = .ok (.iand, 1) := by decide +kernel
theorem dX1_nameJoined_56 : decode cX1_nameJoined 56 = .ok (.istore_n 2, 1) := by decide +kernel
theorem dX1_nameJoined_57 : decode cX1_nameJoined 57 = .ok (.iinc 3 1, 3) := by decide +kernel
theorem dX1_nameJoined_60 : decode cX1_nameJoined 60 = .ok (.goto (-46), 3) := by decide +kernel
theorem dX1_nameJoined_63 : decode cX1_nameJoined 63 = .ok (.iconst 0, 1) := by decide +kernel
theorem dX1_nameJoined_64 : decode cX1_nameJoined 64 = .ok (.istore_n 3, 1) := by decide +kernel
theorem dX1_nameJoined_65 : decode cX1_nameJoined 65 = .ok (.iload_n 3, 1) := by decide +kernel
theorem dX1_nameJoined_66 : decode cX1_nameJoined 66 = .ok (.aload_n 0, 1) := by decide +kernel
theorem dX1_nameJoined_67 : decode cX1_nameJoined 67 = .ok (.getfield 39, 3) := by decide +kernel
theorem dX1_nameJoined_70 : decode cX1_nameJoined 70 = .ok (.getfield 56, 3) := by decide +kernel
theorem dX1_nameJoined_73 : decode cX1_nameJoined 73 = .ok (.if_icmp .ge 73, 3) := by decide +kernel
theorem dX1_nameJoined_76 : decode cX1_nameJoined 76 = .ok (.aload_n 1, 1) := by decide +kernel
theorem dX1_nameJoined_77 : decode cX1_nameJoined 77 = .ok (.iload_n 3, 1) := by decide +kernel
theorem dX1_nameJoined_78 : decode cX1_nameJoined 78 = .ok (.aload_n 0, 1) := by decide +kernel
theorem dX1_nameJoined_79 : decode cX1_nameJoined 79 = .ok (.getfield 21, 3) := by decide +kernel
theorem dX1_nameJoined_82 : decode cX1_nameJoined 82 = .ok (.iload_n 3, 1) := by decide +kernel
theorem dX1_nameJoined_83 : decode cX1_nameJoined 83 = .ok (.iaload, 1) := by decide +kernel
theorem dX1_nameJoined_84 : decode cX1_nameJoined 84 = .ok (.invokevirtual 85, 3) := by decide +kernel
theorem dX1_nameJoined_87 : decode cX1_nameJoined 87 = .ok (.aload_n 0, 1) := by decide +kernel
theorem dX1_nameJoined_88 : decode cX1_nameJoined 88 = .ok (.getfield 21, 3) := by decide +kernel
theorem dX1_nameJoined_91 : decode cX1_nameJoined 91 = .ok (.iload_n 3, 1) := by decide +kernel
theorem dX1_nameJoined_92 : decode cX1_nameJoined 92 = .ok (.iaload, 1) := by decide +kernel
theorem dX1_nameJoined_93 : decode cX1_nameJoined 93 = .ok (.iconst 1, 1) := by decide +kernel
theorem dX1_nameJoined_94 : decode cX1_nameJoined 94 = .ok (.iadd, 1) := by decide +kernel
theorem dX1_nameJoined_95 : decode cX1_nameJoined 95 = .ok (.istore 4, 2) := by decide +kernel
theorem dX1_nameJoined_97 : decode cX1_nameJoined 97 = .ok (.iload 4, 2) := by decide +kernel
theorem dX1_nameJoined_99 : decode cX1_nameJoined 99 = .ok (.aload_n 0, 1) := by decide +kernel
theorem dX1_nameJoined_100 : decode cX1_nameJoined 100 = .ok (.getfield 39, 3) := by decide +kernel
theorem dX1_nameJoined_103 : decode cX1_nameJoined 103 = .ok (.getfield 56, 3) := by decide +kernel
theorem dX1_nameJoined_106 : decode cX1_nameJoined 106 = .ok (.if_icmp .ge 34, 3) := by decide +kernel
theorem dX1_nameJoined_109 : decode cX1_nameJoined 109 = .ok (.aload_n 0, 1) := by decide +kernel
theorem dX1_nameJoined_110 : decode cX1_nameJoined 110 = .ok (.getfield 39, 3) := by decide +kernel
theorem dX1_nameJoined_113 : decode cX1_nameJoined 113 = .ok (.iload_n 3, 1) := by decide +kernel
theorem dX1_nameJoined_114 : decode cX1_nameJoined 114 = .ok (.aload_n 0, 1) := by decide +kernel
theorem dX1_nameJoined_115 : decode cX1_nameJoined 115 = .ok (.getfield 24, 3) := by decide +kernel
theorem dX1_nameJoined_118 : decode cX1_nameJoined 118 = .ok (.iload 4, 2) := by decide +kernel
theorem dX1_nameJoined_120 : decode cX1_nameJoined 120 = .ok (.iaload, 1) := by decide +kernel
theorem dX1_nameJoined_121 : decode cX1_nameJoined 121 = .ok (.invokevirtual 96, 3) := by decide +kernel
theorem dX1_nameJoined_124 : decode cX1_nameJoined 124 = .ok (.ifCond .eq 10, 3) := by decide +kernel
theorem dX1_nameJoined_127 : decode cX1_nameJoined 127 = .ok (.aload_n 1, 1) := by decide +kernel
theorem dX1_nameJoined_128 : decode cX1_nameJoined 128 = .ok (.iload_n 3, 1) := by decide +kernel
theorem dX1_nameJoined_129 : decode cX1_nameJoined 129 = .ok (.iload 4, 2) := by decide +kernel
theorem dX1_nameJoined_131 : decode cX1_nameJoined 131 = .ok (.invokevirtual 85, 3) := by decide +kernel
theorem dX1_nameJoined_134 : decode cX1_nameJoined 134 = .ok (.iinc 4 1, 3) := by decide +kernel
theorem dX1_nameJoined_137 : decode cX1_nameJoined 137 = .ok (.goto (-40), 3) := by decide +kernel
theorem dX1_nameJoined_140 : decode cX1_nameJoined 140 = .ok (.iinc 3 1, 3) := by decide +kernel
theorem dX1_nameJoined_143 : decode cX1_nameJoined 143 = .ok (.goto (-78), 3) := by decide +kernel
theorem dX1_nameJoined_146 : decode cX1_nameJoined 146 = .ok (.return_, 1) := by decide +kernel
theorem wLabels_nameJoined_97 (l : Launch) (G : zG) (k65 : Nat → Int32 → zM → Option (Unit × zM)) (hk65 : ∀ (c1 : Nat) (hc1 : zN c1) (v3 : Int32) (M : zM), zV eV l G zLX zRX 3 yX1_nameJoined cX1_nameJoined 5 none 65 [(0, .ref 14), (1, .ref c1), (3, .int v3)] [] M (k65 c1 v3 M)) : ∀ (fuel : Nat) (c1 : Nat) (hc1 : zN c1) (v3 : Int32) (v4 : Int32) (M : zM), zV eV l G zLX zRX 3 yX1_nameJoined cX1_nameJoined 5 none 97 [(0, .ref 14), (1, .ref c1), (3, .int v3), (4, .int v4)] [] M (fLabels_nameJoined_97 k65 fuel c1 v3 v4 M) := by
  intro fuel
  induction fuel with
  | zero => intro c1 hc1 v3 v4 M; exact v_none
  | succ fuel ih =>
    intro c1 hc1 v3 v4 M
    rw [fLabels_nameJoined_97]
    refine v_iload (pc := 97) dX1_nameJoined_97 rfl ?_
    refine v_aload_n (pc := 99) dX1_nameJoined_99 rfl ?_
    refine v_getR (pc := 100) (q := 0) zk1 lx_14 rfl rx_14_0 tw_249 dX1_nameJoined_100 ?_
    refine v_getI (pc := 103) (q := 0) zk3 lx_1 rfl tw_116 dX1_nameJoined_103 ?_
    refine v_icmp_ge (pc := 106) 140 dX1_nameJoined_106 (by decide) ?_ ?_
    · refine v_iinc (pc := 140) 1 dX1_nameJoined_140 rfl (by decide) (by decide) ?_
      refine v_goto (pc := 143) 65 dX1_nameJoined_143 (by decide) ?_
      exact v_sub (hk65 c1 hc1 (v3 + 1) M) rfl
    · refine v_aload_n (pc := 109) dX1_nameJoined_109 rfl ?_
      refine v_getR (pc := 110) (q := 0) zk1 lx_14 rfl rx_14_0 tw_249 dX1_nameJoined_110 ?_
      refine v_iload_n (pc := 113) dX1_nameJoined_113 rfl ?_
      refine v_aload_n (pc := 114) dX1_nameJoined_114 rfl ?_
      refine v_getR (pc := 115) (q := 5) zk1 lx_14 rfl rx_14_5 tw_254 dX1_nameJoined_115 ?_
      refine v_iload (pc := 118) dX1_nameJoined_118 rfl ?_
      refine v_iald (pc := 120) lx_18 dX1_nameJoined_120 (fun x1 => ?_)
      refine v_callV (pc := 121) (As := [.int v3, .int x1]) (cNet_joins l G v3 x1 M) zc_X3_joins zk3 rfl lx_1 tw_604 (by decide) (Nat.le_of_ble_eq_true rfl) dX1_nameJoined_121 (fun r3 M2 => ?_)
      refine v_if_eq (pc := 124) 134 dX1_nameJoined_124 (by decide) ?_ ?_
      · refine v_iinc (pc := 134) 1 dX1_nameJoined_134 rfl (by decide) (by decide) ?_
        refine v_goto (pc := 137) 97 dX1_nameJoined_137 (by decide) ?_
        exact v_sub (ih c1 hc1 v3 (v4 + 1) M2) rfl
      · refine v_aload_n (pc := 127) dX1_nameJoined_127 rfl ?_
        refine v_iload_n (pc := 128) dX1_nameJoined_128 rfl ?_
        refine v_iload (pc := 129) dX1_nameJoined_129 rfl ?_
        refine v_callV (pc := 131) (As := [.int v3, .int v4]) (cNames_append l G c1 hc1 v3 v4 M2) zc_X2_append zk2 rfl hc1.1 tw_591 (by decide) (Nat.le_of_ble_eq_true rfl) dX1_nameJoined_131 (fun _ M4 => ?_)
        skip
        refine v_iinc (pc := 134) 1 dX1_nameJoined_134 rfl (by decide) (by decide) ?_
        refine v_goto (pc := 137) 97 dX1_nameJoined_137 (by decide) ?_
        exact v_sub (ih c1 hc1 v3 (v4 + 1) M4) rfl
theorem wLabels_nameJoined_65 (l : Launch) (G : zG) : ∀ (fuel : Nat) (c1 : Nat) (hc1 : zN c1) (v3 : Int32) (M : zM), zV eV l G zLX zRX 3 yX1_nameJoined cX1_nameJoined 5 none 65 [(0, .ref 14), (1, .ref c1), (3, .int v3)] [] M (fLabels_nameJoined_65 fuel c1 v3 M) := by
  intro fuel
  induction fuel with
  | zero => intro c1 hc1 v3 M; exact v_none
  | succ fuel ih =>
    intro c1 hc1 v3 M
    rw [fLabels_nameJoined_65]
    refine v_iload_n (pc := 65) dX1_nameJoined_65 rfl ?_
    refine v_aload_n (pc := 66) dX1_nameJoined_66 rfl ?_
    refine v_getR (pc := 67) (q := 0) zk1 lx_14 rfl rx_14_0 tw_249 dX1_nameJoined_67 ?_
    refine v_getI (pc := 70) (q := 0) zk3 lx_1 rfl tw_116 dX1_nameJoined_70 ?_
    refine v_icmp_ge (pc := 73) 146 dX1_nameJoined_73 (by decide) ?_ ?_
    · exact v_vret (pc := 146) dX1_nameJoined_146
    · refine v_aload_n (pc := 76) dX1_nameJoined_76 rfl ?_
      refine v_iload_n (pc := 77) dX1_nameJoined_77 rfl ?_
      refine v_aload_n (pc := 78) dX1_nameJoined_78 rfl ?_
      refine v_getR (pc := 79) (q := 4) zk1 lx_14 rfl rx_14_4 tw_253 dX1_nameJoined_79 ?_
      refine v_iload_n (pc := 82) dX1_nameJoined_82 rfl ?_
      refine v_iald (pc := 83) lx_17 dX1_nameJoined_83 (fun x1 => ?_)
      refine v_callV (pc := 84) (As := [.int v3, .int x1]) (cNames_append l G c1 hc1 v3 x1 M) zc_X2_append zk2 rfl hc1.1 tw_591 (by decide) (Nat.le_of_ble_eq_true rfl) dX1_nameJoined_84 (fun _ M2 => ?_)
      skip
      refine v_aload_n (pc := 87) dX1_nameJoined_87 rfl ?_
      refine v_getR (pc := 88) (q := 4) zk1 lx_14 rfl rx_14_4 tw_253 dX1_nameJoined_88 ?_
      refine v_iload_n (pc := 91) dX1_nameJoined_91 rfl ?_
      refine v_iald (pc := 92) lx_17 dX1_nameJoined_92 (fun x3 => ?_)
      refine v_iconst (pc := 93) 1 dX1_nameJoined_93 (by decide) ?_
      refine v_iadd (pc := 94) dX1_nameJoined_94 ?_
      refine v_istoreL (pc := 95) dX1_nameJoined_95 (by decide) (fun u4_95 => ?_)
      exact v_sub (wLabels_nameJoined_97 l G (fLabels_nameJoined_65 fuel) ih FU c1 hc1 v3 u4_95 M2) rfl
theorem wLabels_nameJoined_14 (l : Launch) (G : zG) : ∀ (fuel : Nat) (c1 : Nat) (hc1 : zN c1) (v2 : Int32) (v3 : Int32) (M : zM), zV eV l G zLX zRX 3 yX1_nameJoined cX1_nameJoined 5 none 14 [(0, .ref 14), (1, .ref c1), (2, .int v2), (3, .int v3)] [] M (fLabels_nameJoined_14 fuel c1 v2 v3 M) := by
  intro fuel
  induction fuel with
  | zero => intro c1 hc1 v2 v3 M; exact v_none
  | succ fuel ih =>
    intro c1 hc1 v2 v3 M
    rw [fLabels_nameJoined_14]
    refine v_iload_n (pc := 14) dX1_nameJoined_14 rfl ?_
    refine v_aload_n (pc := 15) dX1_nameJoined_15 rfl ?_
    refine v_getR (pc := 16) (q := 0) zk1 lx_14 rfl rx_14_0 tw_249 dX1_nameJoined_16 ?_
    refine v_getI (pc := 19) (q := 0) zk3 lx_1 rfl tw_116 dX1_nameJoined_19 ?_
    refine v_icmp_ge (pc := 22) 63 dX1_nameJoined_22 (by decide) ?_ ?_
    · refine v_iconst (pc := 63) 0 dX1_nameJoined_63 (by decide) ?_
      refine v_istore_n (pc := 64) dX1_nameJoined_64 (by decide) ?_
      exact v_sub (wLabels_nameJoined_65 l G FU c1 hc1 0 M) rfl
    · refine v_aload_n (pc := 25) dX1_nameJoined_25 rfl ?_
      refine v_iload_n (pc := 26) dX1_nameJoined_26 rfl ?_
      refine v_callV (pc := 27) (As := [.int v2]) (cLabels_fewestLines l G v2 M) zc_X1_fewestLines zk1 rfl lx_14 tw_599 (by decide) (Nat.le_of_ble_eq_true rfl) dX1_nameJoined_27 (fun r2 M1 => ?_)
      refine v_istore (pc := 30) dX1_nameJoined_30 (by decide) ?_
      refine v_aload_n (pc := 32) dX1_nameJoined_32 rfl ?_
      refine v_getR (pc := 33) (q := 4) zk1 lx_14 rfl rx_14_4 tw_253 dX1_nameJoined_33 ?_
      refine v_iload (pc := 36) dX1_nameJoined_36 rfl ?_
      refine v_iload_n (pc := 38) dX1_nameJoined_38 rfl ?_
      refine v_iast (pc := 39) lx_17 dX1_nameJoined_39 (fun M3 => ?_)
      refine v_aload_n (pc := 40) dX1_nameJoined_40 rfl ?_
      refine v_getR (pc := 41) (q := 5) zk1 lx_14 rfl rx_14_5 tw_254 dX1_nameJoined_41 ?_
      refine v_iload_n (pc := 44) dX1_nameJoined_44 rfl ?_
      refine v_iload (pc := 45) dX1_nameJoined_45 rfl ?_
      refine v_iast (pc := 47) lx_18 dX1_nameJoined_47 (fun M4 => ?_)
      refine v_iload_n (pc := 48) dX1_nameJoined_48 rfl ?_
      refine v_iconst (pc := 49) 1 dX1_nameJoined_49 (by decide) ?_
      refine v_iload (pc := 50) dX1_nameJoined_50 rfl ?_
      refine v_ishl (pc := 52) dX1_nameJoined_52 ?_
      refine v_iconst (pc := 53) (-1) dX1_nameJoined_53 (by decide) ?_
      refine v_ixor (pc := 54) dX1_nameJoined_54 ?_
      refine v_iand (pc := 55) dX1_nameJoined_55 ?_
      refine v_istore_nL (pc := 56) dX1_nameJoined_56 (by decide) (fun u2_56 => ?_)
      refine v_iinc (pc := 57) 1 dX1_nameJoined_57 rfl (by decide) (by decide) ?_
      refine v_goto (pc := 60) 14 dX1_nameJoined_60 (by decide) ?_
      exact v_sub (ih c1 hc1 u2_56 (v3 + 1) M4) rfl
theorem wLabels_nameJoined (l : Launch) (G : zG) (c1 : Nat) (hc1 : zN c1) (M : zM) : zV eV l G zLX zRX 3 yX1_nameJoined cX1_nameJoined 5 none 0 [(0, .ref 14), (1, .ref c1)] [] M (fLabels_nameJoined c1 M) := by
  rw [fLabels_nameJoined]
  refine v_iconst (pc := 0) 1 dX1_nameJoined_0 (by decide) ?_
  refine v_aload_n (pc := 1) dX1_nameJoined_1 rfl ?_
  refine v_getR (pc := 2) (q := 0) zk1 lx_14 rfl rx_14_0 tw_249 dX1_nameJoined_2 ?_
  refine v_getI (pc := 5) (q := 0) zk3 lx_1 rfl tw_116 dX1_nameJoined_5 ?_
  refine v_ishl (pc := 8) dX1_nameJoined_8 ?_
  refine v_iconst (pc := 9) 1 dX1_nameJoined_9 (by decide) ?_
  refine v_isub (pc := 10) dX1_nameJoined_10 ?_
  refine v_istore_nL (pc := 11) dX1_nameJoined_11 (by decide) (fun u2_11 => ?_)
  refine v_iconst (pc := 12) 0 dX1_nameJoined_12 (by decide) ?_
  refine v_istore_n (pc := 13) dX1_nameJoined_13 (by decide) ?_
  exact v_sub (wLabels_nameJoined_14 l G FU c1 hc1 u2_11 0 M) rfl
theorem cLabels_nameJoined (l : Launch) (G : zG) (c1 : Nat) (hc1 : zN c1) (M : zM) : zC eV l G zLX zRX 3 yX1_nameJoined cX1_nameJoined 5 none [.ref 14, .ref c1] M (fLabels_nameJoined c1 M) := zC.of (by decide) (Nat.le_of_ble_eq_true rfl) (v_sub (wLabels_nameJoined l G c1 hc1 M) rfl)
theorem dX1_mostLines_0 : decode cX1_mostLines 0 = .ok (.iconst 0, 1) := by decide +kernel
theorem dX1_mostLines_1 : decode cX1_mostLines 1 = .ok (.istore_n 2, 1) := by decide +kernel
theorem dX1_mostLines_2 : decode cX1_mostLines 2 = .ok (.iconst (-1), 1) := by decide +kernel
theorem dX1_mostLines_3 : decode cX1_mostLines 3 = .ok (.istore_n 3, 1) := by decide +kernel
theorem dX1_mostLines_4 : decode cX1_mostLines 4 = .ok (.iconst 0, 1) := by decide +kernel
theorem dX1_mostLines_5 : decode cX1_mostLines 5 = .ok (.istore 4, 2) := by decide +kernel
theorem dX1_mostLines_7 : decode cX1_mostLines 7 = .ok (.iload 4, 2) := by decide +kernel
theorem dX1_mostLines_9 : decode cX1_mostLines 9 = .ok (.aload_n 0, 1) := by decide +kernel
theorem dX1_mostLines_10 : decode cX1_mostLines 10 = .ok (.getfield 39, 3) := by decide +kernel
theorem dX1_mostLines_13 : decode cX1_mostLines 13 = .ok (.getfield 56, 3) := by decide +kernel
theorem dX1_mostLines_16 : decode cX1_mostLines 16 = .ok (.if_icmp .ge 45, 3) := by decide +kernel
theorem dX1_mostLines_19 : decode cX1_mostLines 19 = .ok (.iload_n 1, 1) := by decide +kernel
theorem dX1_mostLines_20 : decode cX1_mostLines 20 = .ok (.iload 4, 2) := by decide +kernel
theorem dX1_mostLines_22 : decode cX1_mostLines 22 = .ok (.ishr, 1) := by decide +kernel
theorem dX1_mostLines_23 : decode cX1_mostLines 23 = .ok (.iconst 1, 1) := by decide +kernel
theorem dX1_mostLines_24 : decode cX1_mostLines 24 = .ok (.iand, 1) := by decide +kernel
theorem dX1_mostLines_25 : decode cX1_mostLines 25 = .ok (.iconst 1, 1) := by decide +kernel
theorem dX1_mostLines_26 : decode cX1_mostLines 26 = .ok (.if_icmp .ne 29, 3) := by decide +kernel
theorem dX1_mostLines_29 : decode cX1_mostLines 29 = .ok (.aload_n 0, 1) := by decide +kernel
theorem dX1_mostLines_30 : decode cX1_mostLines 30 = .ok (.getfield 39, 3) := by decide +kernel
theorem dX1_mostLines_33 : decode cX1_mostLines 33 = .ok (.iload 4, 2) := by decide +kernel
theorem dX1_mostLines_35 : decode cX1_mostLines 35 = .ok (.invokevirtual 115, 3) := by decide +kernel
theorem dX1_mostLines_38 : decode cX1_mostLines 38 = .ok (.iload_n 3, 1) := by decide +kernel
theorem dX1_mostLines_39 : decode cX1_mostLines 39 = .ok (.if_icmp .le 16, 3) := by decide +kernel
theorem dX1_mostLines_42 : decode cX1_mostLines 42 = .ok (.iload 4, 2) := by decide +kernel
theorem dX1_mostLines_44 : decode cX1_mostLines 44 = .ok (.istore_n 2, 1) := by decide +kernel
theorem dX1_mostLines_45 : decode cX1_mostLines 45 = .ok (.aload_n 0, 1) := by decide +kernel
theorem dX1_mostLines_46 : decode cX1_mostLines 46 = .ok (.getfield 39, 3) := by decide +kernel
theorem dX1_mostLines_49 : decode cX1_mostLines 49 = .ok (.iload 4, 2) := by decide +kernel
theorem dX1_mostLines_51 : decode cX1_mostLines 51 = .ok (.invokevirtual 115, 3) := by decide +kernel
theorem dX1_mostLines_54 : decode cX1_mostLines 54 = .ok (.istore_n 3, 1) := by decide +kernel
theorem dX1_mostLines_55 : decode cX1_mostLines 55 = .ok (.iinc 4 1, 3) := by decide +kernel
theorem dX1_mostLines_58 : decode cX1_mostLines 58 = .ok (.goto (-51), 3) := by decide +kernel
theorem dX1_mostLines_61 : decode cX1_mostLines 61 = .ok (.iload_n 2, 1) := by decide +kernel
theorem dX1_mostLines_62 : decode cX1_mostLines 62 = .ok (.ireturn, 1) := by decide +kernel
theorem wLabels_mostLines_7 (l : Launch) (G : zG) : ∀ (fuel : Nat) (v1 : Int32) (v2 : Int32) (v3 : Int32) (v4 : Int32) (M : zM), zV eI l G zLX zRX 3 yX1_mostLines cX1_mostLines 5 (some .int) 7 [(0, .ref 14), (1, .int v1), (2, .int v2), (3, .int v3), (4, .int v4)] [] M (fLabels_mostLines_7 fuel v1 v2 v3 v4 M) := by
  intro fuel
  induction fuel with
  | zero => intro v1 v2 v3 v4 M; exact v_none
  | succ fuel ih =>
    intro v1 v2 v3 v4 M
    rw [fLabels_mostLines_7]
    refine v_iload (pc := 7) dX1_mostLines_7 rfl ?_
    refine v_aload_n (pc := 9) dX1_mostLines_9 rfl ?_
    refine v_getR (pc := 10) (q := 0) zk1 lx_14 rfl rx_14_0 tw_249 dX1_mostLines_10 ?_
    refine v_getI (pc := 13) (q := 0) zk3 lx_1 rfl tw_116 dX1_mostLines_13 ?_
    refine v_icmp_ge (pc := 16) 61 dX1_mostLines_16 (by decide) ?_ ?_
    · refine v_iload_n (pc := 61) dX1_mostLines_61 rfl ?_
      exact v_iret (pc := 62) dX1_mostLines_62
    · refine v_iload_n (pc := 19) dX1_mostLines_19 rfl ?_
      refine v_iload (pc := 20) dX1_mostLines_20 rfl ?_
      refine v_ishr (pc := 22) dX1_mostLines_22 ?_
      refine v_iconst (pc := 23) 1 dX1_mostLines_23 (by decide) ?_
      refine v_iand (pc := 24) dX1_mostLines_24 ?_
      refine v_iconst (pc := 25) 1 dX1_mostLines_25 (by decide) ?_
      refine v_icmp_ne (pc := 26) 55 dX1_mostLines_26 (by decide) ?_ ?_
      · refine v_iinc (pc := 55) 1 dX1_mostLines_55 rfl (by decide) (by decide) ?_
        refine v_goto (pc := 58) 7 dX1_mostLines_58 (by decide) ?_
        exact v_sub (ih v1 v2 v3 (v4 + 1) M) rfl
      · refine v_aload_n (pc := 29) dX1_mostLines_29 rfl ?_
        refine v_getR (pc := 30) (q := 0) zk1 lx_14 rfl rx_14_0 tw_249 dX1_mostLines_30 ?_
        refine v_iload (pc := 33) dX1_mostLines_33 rfl ?_
        refine v_callV (pc := 35) (As := [.int v4]) (cNet_degree l G v4 M) zc_X3_degree zk3 rfl lx_1 tw_613 (by decide) (Nat.le_of_ble_eq_true rfl) dX1_mostLines_35 (fun r2 M1 => ?_)
        refine v_iload_n (pc := 38) dX1_mostLines_38 rfl ?_
        refine v_icmp_le (pc := 39) 55 dX1_mostLines_39 (by decide) ?_ ?_
        · refine v_iinc (pc := 55) 1 dX1_mostLines_55 rfl (by decide) (by decide) ?_
          refine v_goto (pc := 58) 7 dX1_mostLines_58 (by decide) ?_
          exact v_sub (ih v1 v2 v3 (v4 + 1) M1) rfl
        · refine v_iload (pc := 42) dX1_mostLines_42 rfl ?_
          refine v_istore_n (pc := 44) dX1_mostLines_44 (by decide) ?_
          refine v_aload_n (pc := 45) dX1_mostLines_45 rfl ?_
          refine v_getR (pc := 46) (q := 0) zk1 lx_14 rfl rx_14_0 tw_249 dX1_mostLines_46 ?_
          refine v_iload (pc := 49) dX1_mostLines_49 rfl ?_
          refine v_callV (pc := 51) (As := [.int v4]) (cNet_degree l G v4 M1) zc_X3_degree zk3 rfl lx_1 tw_613 (by decide) (Nat.le_of_ble_eq_true rfl) dX1_mostLines_51 (fun r4 M3 => ?_)
          refine v_istore_n (pc := 54) dX1_mostLines_54 (by decide) ?_
          refine v_iinc (pc := 55) 1 dX1_mostLines_55 rfl (by decide) (by decide) ?_
          refine v_goto (pc := 58) 7 dX1_mostLines_58 (by decide) ?_
          exact v_sub (ih v1 v4 r4 (v4 + 1) M3) rfl
theorem wLabels_mostLines (l : Launch) (G : zG) (v1 : Int32) (M : zM) : zV eI l G zLX zRX 3 yX1_mostLines cX1_mostLines 5 (some .int) 0 [(0, .ref 14), (1, .int v1)] [] M (fLabels_mostLines v1 M) := by
  rw [fLabels_mostLines]
  refine v_iconst (pc := 0) 0 dX1_mostLines_0 (by decide) ?_
  refine v_istore_n (pc := 1) dX1_mostLines_1 (by decide) ?_
  refine v_iconst (pc := 2) (-1) dX1_mostLines_2 (by decide) ?_
  refine v_istore_n (pc := 3) dX1_mostLines_3 (by decide) ?_
  refine v_iconst (pc := 4) 0 dX1_mostLines_4 (by decide) ?_
  refine v_istore (pc := 5) dX1_mostLines_5 (by decide) ?_
  exact v_sub (wLabels_mostLines_7 l G FU v1 0 (-1) 0 M) rfl
theorem cLabels_mostLines (l : Launch) (G : zG) (v1 : Int32) (M : zM) : zC eI l G zLX zRX 3 yX1_mostLines cX1_mostLines 5 (some .int) [.ref 14, .int v1] M (fLabels_mostLines v1 M) := zC.of (by decide) (Nat.le_of_ble_eq_true rfl) (v_sub (wLabels_mostLines l G v1 M) rfl)
theorem dX1_spread_0 : decode cX1_spread 0 = .ok (.iconst 1, 1) := by decide +kernel
theorem dX1_spread_1 : decode cX1_spread 1 = .ok (.iload_n 2, 1) := by decide +kernel
theorem dX1_spread_2 : decode cX1_spread 2 = .ok (.ishl, 1) := by decide +kernel
theorem dX1_spread_3 : decode cX1_spread 3 = .ok (.istore_n 3, 1) := by decide +kernel
theorem dX1_spread_4 : decode cX1_spread 4 = .ok (.iconst 1, 1) := by decide +kernel
theorem dX1_spread_5 : decode cX1_spread 5 = .ok (.istore 4, 2) := by decide +kernel
theorem dX1_spread_7 : decode cX1_spread 7 = .ok (.aload_n 0, 1) := by decide +kernel
theorem dX1_spread_8 : decode cX1_spread 8 = .ok (.getfield 33, 3) := by decide +kernel
theorem dX1_spread_11 : decode cX1_spread 11 = .ok (.iconst 0, 1) := by decide +kernel
theorem dX1_spread_12 : decode cX1_spread 12 = .ok (.iload_n 2, 1) := by decide +kernel
theorem dX1_spread_13 : decode cX1_spread 13 = .ok (.iastore, 1) := by decide +kernel
theorem dX1_spread_14 : decode cX1_spread 14 = .ok (.aload_n 0, 1) := by decide +kernel
theorem dX1_spread_15 : decode cX1_spread 15 = .ok (.getfield 36, 3) := by decide +kernel
theorem dX1_spread_18 : decode cX1_spread 18 = .ok (.iload_n 2, 1) := by decide +kernel
theorem dX1_spread_19 : decode cX1_spread 19 = .ok (.iconst 0, 1) := by decide +kernel
theorem dX1_spread_20 : decode cX1_spread 20 = .ok (.iastore, 1) := by decide +kernel
theorem dX1_spread_21 : decode cX1_spread 21 = .ok (.iconst 0, 1) := by decide +kernel
theorem dX1_spread_22 : decode cX1_spread 22 = .ok (.istore 5, 2) := by decide +kernel
theorem dX1_spread_24 : decode cX1_spread 24 = .ok (.iload 5, 2) := by decide +kernel
theorem dX1_spread_26 : decode cX1_spread 26 = .ok (.iload 4, 2) := by decide +kernel
theorem dX1_spread_28 : decode cX1_spread 28 = .ok (.if_icmp .ge 164, 3) := by decide +kernel
theorem dX1_spread_31 : decode cX1_spread 31 = .ok (.iload 5, 2) := by decide +kernel
theorem dX1_spread_33 : decode cX1_spread 33 = .ok (.aload_n 0, 1) := by decide +kernel
theorem dX1_spread_34 : decode cX1_spread 34 = .ok (.getfield 39, 3) := by decide +kernel
theorem dX1_spread_37 : decode cX1_spread 37 = .ok (.getfield 56, 3) := by decide +kernel
theorem dX1_spread_40 : decode cX1_spread 40 = .ok (.if_icmp .ge 152, 3) := by decide +kernel
theorem dX1_spread_43 : decode cX1_spread 43 = .ok (.aload_n 0, 1) := by decide +kernel
theorem dX1_spread_44 : decode cX1_spread 44 = .ok (.getfield 33, 3) := by decide +kernel
theorem dX1_spread_47 : decode cX1_spread 47 = .ok (.iload 5, 2) := by decide +kernel
theorem dX1_spread_49 : decode cX1_spread 49 = .ok (.iaload, 1) := by decide +kernel
theorem dX1_spread_50 : decode cX1_spread 50 = .ok (.istore 6, 2) := by decide +kernel
theorem dX1_spread_52 : decode cX1_spread 52 = .ok (.aload_n 1, 1) := by decide +kernel
theorem dX1_spread_53 : decode cX1_spread 53 = .ok (.iload 6, 2) := by decide +kernel
theorem dX1_spread_55 : decode cX1_spread 55 = .ok (.iload_n 2, 1) := by decide +kernel
theorem dX1_spread_56 : decode cX1_spread 56 = .ok (.invokevirtual 118, 3) := by decide +kernel
theorem dX1_spread_59 : decode cX1_spread 59 = .ok (.istore 7, 2) := by decide +kernel
theorem dX1_spread_61 : decode cX1_spread 61 = .ok (.iload 7, 2) := by decide +kernel
theorem dX1_spread_63 : decode cX1_spread 63 = .ok (.iconst (-1), 1) := by decide +kernel
theorem dX1_spread_64 : decode cX1_spread 64 = .ok (.if_icmp .eq 18, 3) := by decide +kernel
theorem dX1_spread_67 : decode cX1_spread 67 = .ok (.iload 7, 2) := by decide +kernel
theorem dX1_spread_69 : decode cX1_spread 69 = .ok (.aload_n 0, 1) := by decide +kernel
theorem dX1_spread_70 : decode cX1_spread 70 = .ok (.getfield 36, 3) := by decide +kernel
theorem dX1_spread_73 : decode cX1_spread 73 = .ok (.iload 6, 2) := by decide +kernel
theorem dX1_spread_75 : decode cX1_spread 75 = .ok (.iaload, 1) := by decide +kernel
theorem dX1_spread_76 : decode cX1_spread 76 = .ok (.if_icmp .gt 6, 3) := by decide +kernel
theorem dX1_spread_79 : decode cX1_spread 79 = .ok (.goto 107, 3) := by decide +kernel
theorem dX1_spread_82 : decode cX1_spread 82 = .ok (.aload_n 1, 1) := by decide +kernel
theorem dX1_spread_83 : decode cX1_spread 83 = .ok (.iload 6, 2) := by decide +kernel
theorem dX1_spread_85 : decode cX1_spread 85 = .ok (.aload_n 0, 1) := by decide +kernel
theorem dX1_spread_86 : decode cX1_spread 86 = .ok (.getfield 27, 3) := by decide +kernel
theorem dX1_spread_89 : decode cX1_spread 89 = .ok (.iload_n 2, 1) := by decide +kernel
theorem dX1_spread_90 : decode cX1_spread 90 = .ok (.iaload, 1) := by decide +kernel
theorem dX1_spread_91 : decode cX1_spread 91 = .ok (.invokevirtual 85, 3) := by decide +kernel
theorem dX1_spread_94 : decode cX1_spread 94 = .ok (.aload_n 1, 1) := by decide +kernel
theorem dX1_spread_95 : decode cX1_spread 95 = .ok (.iload 6, 2) := by decide +kernel
theorem dX1_spread_97 : decode cX1_spread 97 = .ok (.aload_n 0, 1) := by decide +kernel
theorem dX1_spread_98 : decode cX1_spread 98 = .ok (.getfield 36, 3) := by decide +kernel
theorem dX1_spread_101 : decode cX1_spread 101 = .ok (.iload 6, 2) := by decide +kernel
theorem dX1_spread_103 : decode cX1_spread 103 = .ok (.iaload, 1) := by decide +kernel
theorem dX1_spread_104 : decode cX1_spread 104 = .ok (.invokevirtual 85, 3) := by decide +kernel
theorem dX1_spread_107 : decode cX1_spread 107 = .ok (.iconst 0, 1) := by decide +kernel
theorem dX1_spread_108 : decode cX1_spread 108 = .ok (.istore 8, 2) := by decide +kernel
theorem dX1_spread_110 : decode cX1_spread 110 = .ok (.iload 8, 2) := by decide +kernel
theorem dX1_spread_112 : decode cX1_spread 112 = .ok (.aload_n 0, 1) := by decide +kernel
theorem dX1_spread_113 : decode cX1_spread 113 = .ok (.getfield 39, 3) := by decide +kernel
theorem dX1_spread_116 : decode cX1_spread 116 = .ok (.getfield 56, 3) := by decide +kernel
theorem dX1_spread_119 : decode cX1_spread 119 = .ok (.if_icmp .ge 67, 3) := by decide +kernel
theorem dX1_spread_122 : decode cX1_spread 122 = .ok (.aload_n 0, 1) := by decide +kernel
theorem dX1_spread_123 : decode cX1_spread 123 = .ok (.getfield 39, 3) := by decide +kernel
theorem dX1_spread_126 : decode cX1_spread 126 = .ok (.iload 6, 2) := by decide +kernel
theorem dX1_spread_128 : decode cX1_spread 128 = .ok (.iload 8, 2) := by decide +kernel
theorem dX1_spread_130 : decode cX1_spread 130 = .ok (.invokevirtual 96, 3) := by decide +kernel
theorem dX1_spread_133 : decode cX1_spread 133 = .ok (.ifCond .eq 47, 3) := by decide +kernel
theorem dX1_spread_136 : decode cX1_spread 136 = .ok (.iload_n 3, 1) := by decide +kernel
theorem dX1_spread_137 : decode cX1_spread 137 = .ok (.iload 8, 2) := by decide +kernel
theorem dX1_spread_139 : decode cX1_spread 139 = .ok (.ishr, 1) := by decide +kernel
theorem dX1_spread_140 : decode cX1_spread 140 = .ok (.iconst 1, 1) := by decide +kernel
theorem dX1_spread_141 : decode cX1_spread 141 = .ok (.iand, 1) := by decide +kernel
theorem dX1_spread_142 : decode cX1_spread 142 = .ok (.ifCond .ne 38, 3) := by decide +kernel
theorem dX1_spread_145 : decode cX1_spread 145 = .ok (.iload_n 3, 1) := by decide +kernel
theorem dX1_spread_146 : decode cX1_spread 146 = .ok (.iconst 1, 1) := by decide +kernel
theorem dX1_spread_147 : decode cX1_spread 147 = .ok (.iload 8, 2) := by decide +kernel
theorem dX1_spread_149 : decode cX1_spread 149 = .ok (.ishl, 1) := by decide +kernel
theorem dX1_spread_150 : decode cX1_spread 150 = .ok (.ior, 1) := by decide +kernel
theorem dX1_spread_151 : decode cX1_spread 151 = .ok (.istore_n 3, 1) := by decide +kernel
theorem dX1_spread_152 : decode cX1_spread 152 = .ok (.aload_n 0, 1) := by decide +kernel
theorem dX1_spread_153 : decode cX1_spread 153 = .ok (.getfield 36, 3) := by decide +kernel
theorem dX1_spread_156 : decode cX1_spread 156 = .ok (.iload 8, 2) := by decide +kernel
theorem dX1_spread_158 : decode cX1_spread 158 = .ok (.aload_n 0, 1) := by decide +kernel
theorem dX1_spread_159 : decode cX1_spread 159 = .ok (.getfield 36, 3) := by decide +kernel
theorem dX1_spread_162 : decode cX1_spread 162 = .ok (.iload 6, 2) := by decide +kernel
theorem dX1_spread_164 : decode cX1_spread 164 = .ok (.iaload, 1) := by decide +kernel
theorem dX1_spread_165 : decode cX1_spread 165 = .ok (.iconst 1, 1) := by decide +kernel
theorem dX1_spread_166 : decode cX1_spread 166 = .ok (.iadd, 1) := by decide +kernel
theorem dX1_spread_167 : decode cX1_spread 167 = .ok (.iastore, 1) := by decide +kernel
theorem dX1_spread_168 : decode cX1_spread 168 = .ok (.aload_n 0, 1) := by decide +kernel
theorem dX1_spread_169 : decode cX1_spread 169 = .ok (.getfield 33, 3) := by decide +kernel
theorem dX1_spread_172 : decode cX1_spread 172 = .ok (.iload 4, 2) := by decide +kernel
theorem dX1_spread_174 : decode cX1_spread 174 = .ok (.iload 8, 2) := by decide +kernel
theorem dX1_spread_176 : decode cX1_spread 176 = .ok (.iastore, 1) := by decide +kernel
theorem dX1_spread_177 : decode cX1_spread 177 = .ok (.iinc 4 1, 3) := by decide +kernel
theorem dX1_spread_180 : decode cX1_spread 180 = .ok (.iinc 8 1, 3) := by decide +kernel
theorem dX1_spread_183 : decode cX1_spread 183 = .ok (.goto (-73), 3) := by decide +kernel
theorem dX1_spread_186 : decode cX1_spread 186 = .ok (.iinc 5 1, 3) := by decide +kernel
theorem dX1_spread_189 : decode cX1_spread 189 = .ok (.goto (-165), 3) := by decide +kernel
theorem dX1_spread_192 : decode cX1_spread 192 = .ok (.return_, 1) := by decide +kernel
theorem wLabels_spread_110 (l : Launch) (G : zG) (k24 : Nat → Int32 → Int32 → Int32 → Int32 → zM → Option (Unit × zM)) (hk24 : ∀ (c1 : Nat) (hc1 : zN c1) (v2 : Int32) (v3 : Int32) (v4 : Int32) (v5 : Int32) (M : zM), zV eV l G zLX zRX 3 yX1_spread cX1_spread 9 none 24 [(0, .ref 14), (1, .ref c1), (2, .int v2), (3, .int v3), (4, .int v4), (5, .int v5)] [] M (k24 c1 v2 v3 v4 v5 M)) : ∀ (fuel : Nat) (c1 : Nat) (hc1 : zN c1) (v2 : Int32) (v3 : Int32) (v4 : Int32) (v5 : Int32) (v6 : Int32) (v8 : Int32) (M : zM), zV eV l G zLX zRX 3 yX1_spread cX1_spread 9 none 110 [(0, .ref 14), (1, .ref c1), (2, .int v2), (3, .int v3), (4, .int v4), (5, .int v5), (6, .int v6), (8, .int v8)] [] M (fLabels_spread_110 k24 fuel c1 v2 v3 v4 v5 v6 v8 M) := by
  intro fuel
  induction fuel with
  | zero => intro c1 hc1 v2 v3 v4 v5 v6 v8 M; exact v_none
  | succ fuel ih =>
    intro c1 hc1 v2 v3 v4 v5 v6 v8 M
    rw [fLabels_spread_110]
    refine v_iload (pc := 110) dX1_spread_110 rfl ?_
    refine v_aload_n (pc := 112) dX1_spread_112 rfl ?_
    refine v_getR (pc := 113) (q := 0) zk1 lx_14 rfl rx_14_0 tw_249 dX1_spread_113 ?_
    refine v_getI (pc := 116) (q := 0) zk3 lx_1 rfl tw_116 dX1_spread_116 ?_
    refine v_icmp_ge (pc := 119) 186 dX1_spread_119 (by decide) ?_ ?_
    · refine v_iinc (pc := 186) 1 dX1_spread_186 rfl (by decide) (by decide) ?_
      refine v_goto (pc := 189) 24 dX1_spread_189 (by decide) ?_
      exact v_sub (hk24 c1 hc1 v2 v3 v4 (v5 + 1) M) rfl
    · refine v_aload_n (pc := 122) dX1_spread_122 rfl ?_
      refine v_getR (pc := 123) (q := 0) zk1 lx_14 rfl rx_14_0 tw_249 dX1_spread_123 ?_
      refine v_iload (pc := 126) dX1_spread_126 rfl ?_
      refine v_iload (pc := 128) dX1_spread_128 rfl ?_
      refine v_callV (pc := 130) (As := [.int v6, .int v8]) (cNet_joins l G v6 v8 M) zc_X3_joins zk3 rfl lx_1 tw_604 (by decide) (Nat.le_of_ble_eq_true rfl) dX1_spread_130 (fun r2 M1 => ?_)
      refine v_if_eq (pc := 133) 180 dX1_spread_133 (by decide) ?_ ?_
      · refine v_iinc (pc := 180) 1 dX1_spread_180 rfl (by decide) (by decide) ?_
        refine v_goto (pc := 183) 110 dX1_spread_183 (by decide) ?_
        exact v_sub (ih c1 hc1 v2 v3 v4 v5 v6 (v8 + 1) M1) rfl
      · refine v_iload_n (pc := 136) dX1_spread_136 rfl ?_
        refine v_iload (pc := 137) dX1_spread_137 rfl ?_
        refine v_ishr (pc := 139) dX1_spread_139 ?_
        refine v_iconst (pc := 140) 1 dX1_spread_140 (by decide) ?_
        refine v_iand (pc := 141) dX1_spread_141 ?_
        refine v_if_ne (pc := 142) 180 dX1_spread_142 (by decide) ?_ ?_
        · refine v_iinc (pc := 180) 1 dX1_spread_180 rfl (by decide) (by decide) ?_
          refine v_goto (pc := 183) 110 dX1_spread_183 (by decide) ?_
          exact v_sub (ih c1 hc1 v2 v3 v4 v5 v6 (v8 + 1) M1) rfl
        · refine v_iload_n (pc := 145) dX1_spread_145 rfl ?_
          refine v_iconst (pc := 146) 1 dX1_spread_146 (by decide) ?_
          refine v_iload (pc := 147) dX1_spread_147 rfl ?_
          refine v_ishl (pc := 149) dX1_spread_149 ?_
          refine v_ior (pc := 150) dX1_spread_150 ?_
          refine v_istore_nL (pc := 151) dX1_spread_151 (by decide) (fun u3_151 => ?_)
          refine v_aload_n (pc := 152) dX1_spread_152 rfl ?_
          refine v_getR (pc := 153) (q := 9) zk1 lx_14 rfl rx_14_9 tw_258 dX1_spread_153 ?_
          refine v_iload (pc := 156) dX1_spread_156 rfl ?_
          refine v_aload_n (pc := 158) dX1_spread_158 rfl ?_
          refine v_getR (pc := 159) (q := 9) zk1 lx_14 rfl rx_14_9 tw_258 dX1_spread_159 ?_
          refine v_iload (pc := 162) dX1_spread_162 rfl ?_
          refine v_iald (pc := 164) lx_22 dX1_spread_164 (fun x3 => ?_)
          refine v_iconst (pc := 165) 1 dX1_spread_165 (by decide) ?_
          refine v_iadd (pc := 166) dX1_spread_166 ?_
          refine v_iast (pc := 167) lx_22 dX1_spread_167 (fun M4 => ?_)
          refine v_aload_n (pc := 168) dX1_spread_168 rfl ?_
          refine v_getR (pc := 169) (q := 8) zk1 lx_14 rfl rx_14_8 tw_257 dX1_spread_169 ?_
          refine v_iload (pc := 172) dX1_spread_172 rfl ?_
          refine v_iload (pc := 174) dX1_spread_174 rfl ?_
          refine v_iast (pc := 176) lx_21 dX1_spread_176 (fun M5 => ?_)
          refine v_iinc (pc := 177) 1 dX1_spread_177 rfl (by decide) (by decide) ?_
          refine v_iinc (pc := 180) 1 dX1_spread_180 rfl (by decide) (by decide) ?_
          refine v_goto (pc := 183) 110 dX1_spread_183 (by decide) ?_
          exact v_sub (ih c1 hc1 v2 u3_151 (v4 + 1) v5 v6 (v8 + 1) M5) rfl
theorem wLabels_spread_82 (l : Launch) (G : zG) (k24 : Nat → Int32 → Int32 → Int32 → Int32 → zM → Option (Unit × zM)) (hk24 : ∀ (c1 : Nat) (hc1 : zN c1) (v2 : Int32) (v3 : Int32) (v4 : Int32) (v5 : Int32) (M : zM), zV eV l G zLX zRX 3 yX1_spread cX1_spread 9 none 24 [(0, .ref 14), (1, .ref c1), (2, .int v2), (3, .int v3), (4, .int v4), (5, .int v5)] [] M (k24 c1 v2 v3 v4 v5 M)) (c1 : Nat) (hc1 : zN c1) (v2 : Int32) (v3 : Int32) (v4 : Int32) (v5 : Int32) (v6 : Int32) (M : zM) : zV eV l G zLX zRX 3 yX1_spread cX1_spread 9 none 82 [(0, .ref 14), (1, .ref c1), (2, .int v2), (3, .int v3), (4, .int v4), (5, .int v5), (6, .int v6)] [] M (fLabels_spread_82 k24 c1 v2 v3 v4 v5 v6 M) := by
  rw [fLabels_spread_82]
  refine v_aload_n (pc := 82) dX1_spread_82 rfl ?_
  refine v_iload (pc := 83) dX1_spread_83 rfl ?_
  refine v_aload_n (pc := 85) dX1_spread_85 rfl ?_
  refine v_getR (pc := 86) (q := 6) zk1 lx_14 rfl rx_14_6 tw_255 dX1_spread_86 ?_
  refine v_iload_n (pc := 89) dX1_spread_89 rfl ?_
  refine v_iald (pc := 90) lx_19 dX1_spread_90 (fun x1 => ?_)
  refine v_callV (pc := 91) (As := [.int v6, .int x1]) (cNames_append l G c1 hc1 v6 x1 M) zc_X2_append zk2 rfl hc1.1 tw_591 (by decide) (Nat.le_of_ble_eq_true rfl) dX1_spread_91 (fun _ M2 => ?_)
  skip
  refine v_aload_n (pc := 94) dX1_spread_94 rfl ?_
  refine v_iload (pc := 95) dX1_spread_95 rfl ?_
  refine v_aload_n (pc := 97) dX1_spread_97 rfl ?_
  refine v_getR (pc := 98) (q := 9) zk1 lx_14 rfl rx_14_9 tw_258 dX1_spread_98 ?_
  refine v_iload (pc := 101) dX1_spread_101 rfl ?_
  refine v_iald (pc := 103) lx_22 dX1_spread_103 (fun x3 => ?_)
  refine v_callV (pc := 104) (As := [.int v6, .int x3]) (cNames_append l G c1 hc1 v6 x3 M2) zc_X2_append zk2 rfl hc1.1 tw_591 (by decide) (Nat.le_of_ble_eq_true rfl) dX1_spread_104 (fun _ M4 => ?_)
  skip
  refine v_iconst (pc := 107) 0 dX1_spread_107 (by decide) ?_
  refine v_istore (pc := 108) dX1_spread_108 (by decide) ?_
  exact v_sub (wLabels_spread_110 l G k24 hk24 FU c1 hc1 v2 v3 v4 v5 v6 0 M4) rfl
theorem wLabels_spread_24 (l : Launch) (G : zG) : ∀ (fuel : Nat) (c1 : Nat) (hc1 : zN c1) (v2 : Int32) (v3 : Int32) (v4 : Int32) (v5 : Int32) (M : zM), zV eV l G zLX zRX 3 yX1_spread cX1_spread 9 none 24 [(0, .ref 14), (1, .ref c1), (2, .int v2), (3, .int v3), (4, .int v4), (5, .int v5)] [] M (fLabels_spread_24 fuel c1 v2 v3 v4 v5 M) := by
  intro fuel
  induction fuel with
  | zero => intro c1 hc1 v2 v3 v4 v5 M; exact v_none
  | succ fuel ih =>
    intro c1 hc1 v2 v3 v4 v5 M
    rw [fLabels_spread_24]
    refine v_iload (pc := 24) dX1_spread_24 rfl ?_
    refine v_iload (pc := 26) dX1_spread_26 rfl ?_
    refine v_icmp_ge (pc := 28) 192 dX1_spread_28 (by decide) ?_ ?_
    · exact v_vret (pc := 192) dX1_spread_192
    · refine v_iload (pc := 31) dX1_spread_31 rfl ?_
      refine v_aload_n (pc := 33) dX1_spread_33 rfl ?_
      refine v_getR (pc := 34) (q := 0) zk1 lx_14 rfl rx_14_0 tw_249 dX1_spread_34 ?_
      refine v_getI (pc := 37) (q := 0) zk3 lx_1 rfl tw_116 dX1_spread_37 ?_
      refine v_icmp_ge (pc := 40) 192 dX1_spread_40 (by decide) ?_ ?_
      · exact v_vret (pc := 192) dX1_spread_192
      · refine v_aload_n (pc := 43) dX1_spread_43 rfl ?_
        refine v_getR (pc := 44) (q := 8) zk1 lx_14 rfl rx_14_8 tw_257 dX1_spread_44 ?_
        refine v_iload (pc := 47) dX1_spread_47 rfl ?_
        refine v_iald (pc := 49) lx_21 dX1_spread_49 (fun x1 => ?_)
        refine v_istore (pc := 50) dX1_spread_50 (by decide) ?_
        refine v_aload_n (pc := 52) dX1_spread_52 rfl ?_
        refine v_iload (pc := 53) dX1_spread_53 rfl ?_
        refine v_iload_n (pc := 55) dX1_spread_55 rfl ?_
        refine v_callV (pc := 56) (As := [.int x1, .int v2]) (cNames_distance l G c1 hc1 x1 v2 M) zc_X2_distance zk2 rfl hc1.1 tw_618 (by decide) (Nat.le_of_ble_eq_true rfl) dX1_spread_56 (fun r3 M2 => ?_)
        refine v_istore (pc := 59) dX1_spread_59 (by decide) ?_
        refine v_iload (pc := 61) dX1_spread_61 rfl ?_
        refine v_iconst (pc := 63) (-1) dX1_spread_63 (by decide) ?_
        refine v_icmp_eq (pc := 64) 82 dX1_spread_64 (by decide) ?_ ?_
        · exact v_sub (wLabels_spread_82 l G (fLabels_spread_24 fuel) ih c1 hc1 v2 v3 v4 v5 x1 M2) rfl
        · refine v_iload (pc := 67) dX1_spread_67 rfl ?_
          refine v_aload_n (pc := 69) dX1_spread_69 rfl ?_
          refine v_getR (pc := 70) (q := 9) zk1 lx_14 rfl rx_14_9 tw_258 dX1_spread_70 ?_
          refine v_iload (pc := 73) dX1_spread_73 rfl ?_
          refine v_iald (pc := 75) lx_22 dX1_spread_75 (fun x4 => ?_)
          refine v_icmp_gt (pc := 76) 82 dX1_spread_76 (by decide) ?_ ?_
          · exact v_sub (wLabels_spread_82 l G (fLabels_spread_24 fuel) ih c1 hc1 v2 v3 v4 v5 x1 M2) rfl
          · refine v_goto (pc := 79) 186 dX1_spread_79 (by decide) ?_
            refine v_iinc (pc := 186) 1 dX1_spread_186 rfl (by decide) (by decide) ?_
            refine v_goto (pc := 189) 24 dX1_spread_189 (by decide) ?_
            exact v_sub (ih c1 hc1 v2 v3 v4 (v5 + 1) M2) rfl
theorem wLabels_spread (l : Launch) (G : zG) (c1 : Nat) (hc1 : zN c1) (v2 : Int32) (M : zM) : zV eV l G zLX zRX 3 yX1_spread cX1_spread 9 none 0 [(0, .ref 14), (1, .ref c1), (2, .int v2)] [] M (fLabels_spread c1 v2 M) := by
  rw [fLabels_spread]
  refine v_iconst (pc := 0) 1 dX1_spread_0 (by decide) ?_
  refine v_iload_n (pc := 1) dX1_spread_1 rfl ?_
  refine v_ishl (pc := 2) dX1_spread_2 ?_
  refine v_istore_nL (pc := 3) dX1_spread_3 (by decide) (fun u3_3 => ?_)
  refine v_iconst (pc := 4) 1 dX1_spread_4 (by decide) ?_
  refine v_istore (pc := 5) dX1_spread_5 (by decide) ?_
  refine v_aload_n (pc := 7) dX1_spread_7 rfl ?_
  refine v_getR (pc := 8) (q := 8) zk1 lx_14 rfl rx_14_8 tw_257 dX1_spread_8 ?_
  refine v_iconst (pc := 11) 0 dX1_spread_11 (by decide) ?_
  refine v_iload_n (pc := 12) dX1_spread_12 rfl ?_
  refine v_iast (pc := 13) lx_21 dX1_spread_13 (fun M1 => ?_)
  refine v_aload_n (pc := 14) dX1_spread_14 rfl ?_
  refine v_getR (pc := 15) (q := 9) zk1 lx_14 rfl rx_14_9 tw_258 dX1_spread_15 ?_
  refine v_iload_n (pc := 18) dX1_spread_18 rfl ?_
  refine v_iconst (pc := 19) 0 dX1_spread_19 (by decide) ?_
  refine v_iast (pc := 20) lx_22 dX1_spread_20 (fun M2 => ?_)
  refine v_iconst (pc := 21) 0 dX1_spread_21 (by decide) ?_
  refine v_istore (pc := 22) dX1_spread_22 (by decide) ?_
  exact v_sub (wLabels_spread_24 l G FU c1 hc1 v2 u3_3 1 0 M2) rfl
theorem cLabels_spread (l : Launch) (G : zG) (c1 : Nat) (hc1 : zN c1) (v2 : Int32) (M : zM) : zC eV l G zLX zRX 3 yX1_spread cX1_spread 9 none [.ref 14, .ref c1, .int v2] M (fLabels_spread c1 v2 M) := zC.of (by decide) (Nat.le_of_ble_eq_true rfl) (v_sub (wLabels_spread l G c1 hc1 v2 M) rfl)
theorem dX1_nameFar_0 : decode cX1_nameFar 0 = .ok (.iconst 1, 1) := by decide +kernel
theorem dX1_nameFar_1 : decode cX1_nameFar 1 = .ok (.aload_n 0, 1) := by decide +kernel
theorem dX1_nameFar_2 : decode cX1_nameFar 2 = .ok (.getfield 39, 3) := by decide +kernel
theorem dX1_nameFar_5 : decode cX1_nameFar 5 = .ok (.getfield 56, 3) := by decide +kernel
theorem dX1_nameFar_8 : decode cX1_nameFar 8 = .ok (.ishl, 1) := by decide +kernel
theorem dX1_nameFar_9 : decode cX1_nameFar 9 = .ok (.iconst 1, 1) := by decide +kernel
theorem dX1_nameFar_10 : decode cX1_nameFar 10 = .ok (.isub, 1) := by decide +kernel
theorem dX1_nameFar_11 : decode cX1_nameFar 11 = .ok (.istore_n 2, 1) := by decide +kernel
theorem dX1_nameFar_12 : decode cX1_nameFar 12 = .ok (.iconst 0, 1) := by decide +kernel
theorem dX1_nameFar_13 : decode cX1_nameFar 13 = .ok (.istore_n 3, 1) := by decide +kernel
theorem dX1_nameFar_14 : decode cX1_nameFar 14 = .ok (.iload_n 3, 1) := by decide +kernel
theorem dX1_nameFar_15 : decode cX1_nameFar 15 = .ok (.aload_n 0, 1) := by decide +kernel
theorem dX1_nameFar_16 : decode cX1_nameFar 16 = .ok (.getfield 39, 3) := by decide +kernel
theorem dX1_nameFar_19 : decode cX1_nameFar 19 = .ok (.getfield 56, 3) := by decide +kernel
theorem dX1_nameFar_22 : decode cX1_nameFar 22 = .ok (.if_icmp .ge 41, 3) := by decide +kernel
theorem dX1_nameFar_25 : decode cX1_nameFar 25 = .ok (.aload_n 0, 1) := by decide +kernel
theorem dX1_nameFar_26 : decode cX1_nameFar 26 = .ok (.iload_n 2, 1) := by decide +kernel
theorem dX1_nameFar_27 : decode cX1_nameFar 27 = .ok (.invokevirtual 108, 3) := by decide +kernel
theorem dX1_nameFar_30 : decode cX1_nameFar 30 = .ok (.istore 4, 2) := by decide +kernel
theorem dX1_nameFar_32 : decode cX1_nameFar 32 = .ok (.aload_n 0, 1) := by decide +kernel
theorem dX1_nameFar_33 : decode cX1_nameFar 33 = .ok (.getfield 27, 3) := by decide +kernel
theorem dX1_nameFar_36 : decode cX1_nameFar 36 = .ok (.iload 4, 2) := by decide +kernel
theorem dX1_nameFar_38 : decode cX1_nameFar 38 = .ok (.iload_n 3, 1) := by decide +kernel
theorem dX1_nameFar_39 : decode cX1_nameFar 39 = .ok (.iastore, 1) := by decide +kernel
theorem dX1_nameFar_40 : decode cX1_nameFar 40 = .ok (.aload_n 0, 1) := by decide +kernel
theorem dX1_nameFar_41 : decode cX1_nameFar 41 = .ok (.getfield 30, 3) := by decide +kernel
theorem dX1_nameFar_44 : decode cX1_nameFar 44 = .ok (.iload_n 3, 1) := by decide +kernel
theorem dX1_nameFar_45 : decode cX1_nameFar 45 = .ok (.iload 4, 2) := by decide +kernel
theorem dX1_nameFar_47 : decode cX1_nameFar 47 = .ok (.iastore, 1) := by decide +kernel
theorem dX1_nameFar_48 : decode cX1_nameFar 48 = .ok (.iload_n 2, 1) := by decide +kernel
theorem dX1_nameFar_49 : decode cX1_nameFar 49 = .ok (.iconst 1, 1) := by decide +kernel
theorem dX1_nameFar_50 : decode cX1_nameFar 50 = .ok (.iload 4, 2) := by decide +kernel
theorem dX1_nameFar_52 : decode cX1_nameFar 52 = .ok (.ishl, 1) := by decide +kernel
theorem dX1_nameFar_53 : decode cX1_nameFar 53 = .ok (.iconst (-1), 1) := by decide +kernel
theorem dX1_nameFar_54 : decode cX1_nameFar 54 = .ok (.ixor, 1) := by decide +kernel
theorem dX1_nameFar_55 : decode cX1_nameFar 55 = .ok (.iand, 1) := by decide +kernel
theorem dX1_nameFar_56 : decode cX1_nameFar 56 = .ok (.istore_n 2, 1) := by decide +kernel
theorem dX1_nameFar_57 : decode cX1_nameFar 57 = .ok (.iinc 3 1, 3) := by decide +kernel
theorem dX1_nameFar_60 : decode cX1_nameFar 60 = .ok (.goto (-46), 3) := by decide +kernel
theorem dX1_nameFar_63 : decode cX1_nameFar 63 = .ok (.iconst 0, 1) := by decide +kernel
theorem dX1_nameFar_64 : decode cX1_nameFar 64 = .ok (.istore_n 3, 1) := by decide +kernel
theorem dX1_nameFar_65 : decode cX1_nameFar 65 = .ok (.iload_n 3, 1) := by decide +kernel
theorem dX1_nameFar_66 : decode cX1_nameFar 66 = .ok (.aload_n 0, 1) := by decide +kernel
theorem dX1_nameFar_67 : decode cX1_nameFar 67 = .ok (.getfield 39, 3) := by decide +kernel
theorem dX1_nameFar_70 : decode cX1_nameFar 70 = .ok (.getfield 56, 3) := by decide +kernel
theorem dX1_nameFar_73 : decode cX1_nameFar 73 = .ok (.if_icmp .ge 20, 3) := by decide +kernel
theorem dX1_nameFar_76 : decode cX1_nameFar 76 = .ok (.aload_n 0, 1) := by decide +kernel
theorem dX1_nameFar_77 : decode cX1_nameFar 77 = .ok (.aload_n 1, 1) := by decide +kernel
theorem dX1_nameFar_78 : decode cX1_nameFar 78 = .ok (.aload_n 0, 1) := by decide +kernel
theorem dX1_nameFar_79 : decode cX1_nameFar 79 = .ok (.getfield 30, 3) := by decide +kernel
theorem dX1_nameFar_82 : decode cX1_nameFar 82 = .ok (.iload_n 3, 1) := by decide +kernel
theorem dX1_nameFar_83 : decode cX1_nameFar 83 = .ok (.iaload, 1) := by decide +kernel
theorem dX1_nameFar_84 : decode cX1_nameFar 84 = .ok (.invokevirtual 111, 3) := by decide +kernel
theorem dX1_nameFar_87 : decode cX1_nameFar 87 = .ok (.iinc 3 1, 3) := by decide +kernel
theorem dX1_nameFar_90 : decode cX1_nameFar 90 = .ok (.goto (-25), 3) := by decide +kernel
theorem dX1_nameFar_93 : decode cX1_nameFar 93 = .ok (.return_, 1) := by decide +kernel
theorem wLabels_nameFar_65 (l : Launch) (G : zG) : ∀ (fuel : Nat) (c1 : Nat) (hc1 : zN c1) (v3 : Int32) (M : zM), zV eV l G zLX zRX 4 yX1_nameFar cX1_nameFar 5 none 65 [(0, .ref 14), (1, .ref c1), (3, .int v3)] [] M (fLabels_nameFar_65 fuel c1 v3 M) := by
  intro fuel
  induction fuel with
  | zero => intro c1 hc1 v3 M; exact v_none
  | succ fuel ih =>
    intro c1 hc1 v3 M
    rw [fLabels_nameFar_65]
    refine v_iload_n (pc := 65) dX1_nameFar_65 rfl ?_
    refine v_aload_n (pc := 66) dX1_nameFar_66 rfl ?_
    refine v_getR (pc := 67) (q := 0) zk1 lx_14 rfl rx_14_0 tw_249 dX1_nameFar_67 ?_
    refine v_getI (pc := 70) (q := 0) zk3 lx_1 rfl tw_116 dX1_nameFar_70 ?_
    refine v_icmp_ge (pc := 73) 93 dX1_nameFar_73 (by decide) ?_ ?_
    · exact v_vret (pc := 93) dX1_nameFar_93
    · refine v_aload_n (pc := 76) dX1_nameFar_76 rfl ?_
      refine v_aload_n (pc := 77) dX1_nameFar_77 rfl ?_
      refine v_aload_n (pc := 78) dX1_nameFar_78 rfl ?_
      refine v_getR (pc := 79) (q := 7) zk1 lx_14 rfl rx_14_7 tw_256 dX1_nameFar_79 ?_
      refine v_iload_n (pc := 82) dX1_nameFar_82 rfl ?_
      refine v_iald (pc := 83) lx_20 dX1_nameFar_83 (fun x1 => ?_)
      refine v_callV (pc := 84) (As := [.ref c1, .int x1]) (cLabels_spread l G c1 hc1 x1 M) zc_X1_spread zk1 rfl lx_14 tw_614 (by decide) (Nat.le_of_ble_eq_true rfl) dX1_nameFar_84 (fun _ M2 => ?_)
      skip
      refine v_iinc (pc := 87) 1 dX1_nameFar_87 rfl (by decide) (by decide) ?_
      refine v_goto (pc := 90) 65 dX1_nameFar_90 (by decide) ?_
      exact v_sub (ih c1 hc1 (v3 + 1) M2) rfl
theorem wLabels_nameFar_14 (l : Launch) (G : zG) : ∀ (fuel : Nat) (c1 : Nat) (hc1 : zN c1) (v2 : Int32) (v3 : Int32) (M : zM), zV eV l G zLX zRX 4 yX1_nameFar cX1_nameFar 5 none 14 [(0, .ref 14), (1, .ref c1), (2, .int v2), (3, .int v3)] [] M (fLabels_nameFar_14 fuel c1 v2 v3 M) := by
  intro fuel
  induction fuel with
  | zero => intro c1 hc1 v2 v3 M; exact v_none
  | succ fuel ih =>
    intro c1 hc1 v2 v3 M
    rw [fLabels_nameFar_14]
    refine v_iload_n (pc := 14) dX1_nameFar_14 rfl ?_
    refine v_aload_n (pc := 15) dX1_nameFar_15 rfl ?_
    refine v_getR (pc := 16) (q := 0) zk1 lx_14 rfl rx_14_0 tw_249 dX1_nameFar_16 ?_
    refine v_getI (pc := 19) (q := 0) zk3 lx_1 rfl tw_116 dX1_nameFar_19 ?_
    refine v_icmp_ge (pc := 22) 63 dX1_nameFar_22 (by decide) ?_ ?_
    · refine v_iconst (pc := 63) 0 dX1_nameFar_63 (by decide) ?_
      refine v_istore_n (pc := 64) dX1_nameFar_64 (by decide) ?_
      exact v_sub (wLabels_nameFar_65 l G FU c1 hc1 0 M) rfl
    · refine v_aload_n (pc := 25) dX1_nameFar_25 rfl ?_
      refine v_iload_n (pc := 26) dX1_nameFar_26 rfl ?_
      refine v_callV (pc := 27) (As := [.int v2]) (cLabels_mostLines l G v2 M) zc_X1_mostLines zk1 rfl lx_14 tw_609 (by decide) (Nat.le_of_ble_eq_true rfl) dX1_nameFar_27 (fun r2 M1 => ?_)
      refine v_istore (pc := 30) dX1_nameFar_30 (by decide) ?_
      refine v_aload_n (pc := 32) dX1_nameFar_32 rfl ?_
      refine v_getR (pc := 33) (q := 6) zk1 lx_14 rfl rx_14_6 tw_255 dX1_nameFar_33 ?_
      refine v_iload (pc := 36) dX1_nameFar_36 rfl ?_
      refine v_iload_n (pc := 38) dX1_nameFar_38 rfl ?_
      refine v_iast (pc := 39) lx_19 dX1_nameFar_39 (fun M3 => ?_)
      refine v_aload_n (pc := 40) dX1_nameFar_40 rfl ?_
      refine v_getR (pc := 41) (q := 7) zk1 lx_14 rfl rx_14_7 tw_256 dX1_nameFar_41 ?_
      refine v_iload_n (pc := 44) dX1_nameFar_44 rfl ?_
      refine v_iload (pc := 45) dX1_nameFar_45 rfl ?_
      refine v_iast (pc := 47) lx_20 dX1_nameFar_47 (fun M4 => ?_)
      refine v_iload_n (pc := 48) dX1_nameFar_48 rfl ?_
      refine v_iconst (pc := 49) 1 dX1_nameFar_49 (by decide) ?_
      refine v_iload (pc := 50) dX1_nameFar_50 rfl ?_
      refine v_ishl (pc := 52) dX1_nameFar_52 ?_
      refine v_iconst (pc := 53) (-1) dX1_nameFar_53 (by decide) ?_
      refine v_ixor (pc := 54) dX1_nameFar_54 ?_
      refine v_iand (pc := 55) dX1_nameFar_55 ?_
      refine v_istore_nL (pc := 56) dX1_nameFar_56 (by decide) (fun u2_56 => ?_)
      refine v_iinc (pc := 57) 1 dX1_nameFar_57 rfl (by decide) (by decide) ?_
      refine v_goto (pc := 60) 14 dX1_nameFar_60 (by decide) ?_
      exact v_sub (ih c1 hc1 u2_56 (v3 + 1) M4) rfl
theorem wLabels_nameFar (l : Launch) (G : zG) (c1 : Nat) (hc1 : zN c1) (M : zM) : zV eV l G zLX zRX 4 yX1_nameFar cX1_nameFar 5 none 0 [(0, .ref 14), (1, .ref c1)] [] M (fLabels_nameFar c1 M) := by
  rw [fLabels_nameFar]
  refine v_iconst (pc := 0) 1 dX1_nameFar_0 (by decide) ?_
  refine v_aload_n (pc := 1) dX1_nameFar_1 rfl ?_
  refine v_getR (pc := 2) (q := 0) zk1 lx_14 rfl rx_14_0 tw_249 dX1_nameFar_2 ?_
  refine v_getI (pc := 5) (q := 0) zk3 lx_1 rfl tw_116 dX1_nameFar_5 ?_
  refine v_ishl (pc := 8) dX1_nameFar_8 ?_
  refine v_iconst (pc := 9) 1 dX1_nameFar_9 (by decide) ?_
  refine v_isub (pc := 10) dX1_nameFar_10 ?_
  refine v_istore_nL (pc := 11) dX1_nameFar_11 (by decide) (fun u2_11 => ?_)
  refine v_iconst (pc := 12) 0 dX1_nameFar_12 (by decide) ?_
  refine v_istore_n (pc := 13) dX1_nameFar_13 (by decide) ?_
  exact v_sub (wLabels_nameFar_14 l G FU c1 hc1 u2_11 0 M) rfl
theorem cLabels_nameFar (l : Launch) (G : zG) (c1 : Nat) (hc1 : zN c1) (M : zM) : zC eV l G zLX zRX 4 yX1_nameFar cX1_nameFar 5 none [.ref 14, .ref c1] M (fLabels_nameFar c1 M) := zC.of (by decide) (Nat.le_of_ble_eq_true rfl) (v_sub (wLabels_nameFar l G c1 hc1 M) rfl)
theorem dX1_now_0 : decode cX1_now 0 = .ok (.aload_n 0, 1) := by decide +kernel
theorem dX1_now_1 : decode cX1_now 1 = .ok (.getfield 11, 3) := by decide +kernel
theorem dX1_now_4 : decode cX1_now 4 = .ok (.iload_n 1, 1) := by decide +kernel
theorem dX1_now_5 : decode cX1_now 5 = .ok (.aaload, 1) := by decide +kernel
theorem dX1_now_6 : decode cX1_now 6 = .ok (.astore_n 2, 1) := by decide +kernel
theorem dX1_now_7 : decode cX1_now 7 = .ok (.aload_n 0, 1) := by decide +kernel
theorem dX1_now_8 : decode cX1_now 8 = .ok (.getfield 17, 3) := by decide +kernel
theorem dX1_now_11 : decode cX1_now 11 = .ok (.iload_n 1, 1) := by decide +kernel
theorem dX1_now_12 : decode cX1_now 12 = .ok (.iaload, 1) := by decide +kernel
theorem dX1_now_13 : decode cX1_now 13 = .ok (.aload_n 0, 1) := by decide +kernel
theorem dX1_now_14 : decode cX1_now 14 = .ok (.getfield 39, 3) := by decide +kernel
theorem dX1_now_17 : decode cX1_now 17 = .ok (.getfield 50, 3) := by decide +kernel
theorem dX1_now_20 : decode cX1_now 20 = .ok (.if_icmp .eq 57, 3) := by decide +kernel
theorem dX1_now_23 : decode cX1_now 23 = .ok (.aload_n 0, 1) := by decide +kernel
theorem dX1_now_24 : decode cX1_now 24 = .ok (.getfield 17, 3) := by decide +kernel
theorem dX1_now_27 : decode cX1_now 27 = .ok (.iload_n 1, 1) := by decide +kernel
theorem dX1_now_28 : decode cX1_now 28 = .ok (.aload_n 0, 1) := by decide +kernel
theorem dX1_now_29 : decode cX1_now 29 = .ok (.getfield 39, 3) := by decide +kernel
theorem dX1_now_32 : decode cX1_now 32 = .ok (.getfield 50, 3) := by decide +kernel
theorem dX1_now_35 : decode cX1_now 35 = .ok (.iastore, 1) := by decide +kernel
theorem dX1_now_36 : decode cX1_now 36 = .ok (.aload_n 2, 1) := by decide +kernel
theorem dX1_now_37 : decode cX1_now 37 = .ok (.aload_n 0, 1) := by decide +kernel
theorem dX1_now_38 : decode cX1_now 38 = .ok (.getfield 39, 3) := by decide +kernel
theorem dX1_now_41 : decode cX1_now 41 = .ok (.getfield 56, 3) := by decide +kernel
theorem dX1_now_44 : decode cX1_now 44 = .ok (.invokevirtual 59, 3) := by decide +kernel
theorem dX1_now_47 : decode cX1_now 47 = .ok (.iload_n 1, 1) := by decide +kernel
theorem dX1_now_48 : decode cX1_now 48 = .ok (.ifCond .ne 11, 3) := by decide +kernel
theorem dX1_now_51 : decode cX1_now 51 = .ok (.aload_n 0, 1) := by decide +kernel
theorem dX1_now_52 : decode cX1_now 52 = .ok (.aload_n 2, 1) := by decide +kernel
theorem dX1_now_53 : decode cX1_now 53 = .ok (.invokevirtual 62, 3) := by decide +kernel
theorem dX1_now_56 : decode cX1_now 56 = .ok (.goto 21, 3) := by decide +kernel
theorem dX1_now_59 : decode cX1_now 59 = .ok (.iload_n 1, 1) := by decide +kernel
theorem dX1_now_60 : decode cX1_now 60 = .ok (.iconst 1, 1) := by decide +kernel
theorem dX1_now_61 : decode cX1_now 61 = .ok (.if_icmp .ne 11, 3) := by decide +kernel
theorem dX1_now_64 : decode cX1_now 64 = .ok (.aload_n 0, 1) := by decide +kernel
theorem dX1_now_65 : decode cX1_now 65 = .ok (.aload_n 2, 1) := by decide +kernel
theorem dX1_now_66 : decode cX1_now 66 = .ok (.invokevirtual 66, 3) := by decide +kernel
theorem dX1_now_69 : decode cX1_now 69 = .ok (.goto 8, 3) := by decide +kernel
theorem dX1_now_72 : decode cX1_now 72 = .ok (.aload_n 0, 1) := by decide +kernel
theorem dX1_now_73 : decode cX1_now 73 = .ok (.aload_n 2, 1) := by decide +kernel
theorem dX1_now_74 : decode cX1_now 74 = .ok (.invokevirtual 69, 3) := by decide +kernel
theorem dX1_now_77 : decode cX1_now 77 = .ok (.aload_n 2, 1) := by decide +kernel
theorem dX1_now_78 : decode cX1_now 78 = .ok (.areturn, 1) := by decide +kernel
theorem wLabels_now (l : Launch) (G : zG) (v1 : Int32) (M : zM) : zV eR l G zLX zRX 5 yX1_now cX1_now 3 (some (.object "NameNets$Names")) 0 [(0, .ref 14), (1, .int v1)] [] M (fLabels_now v1 M) := by
  rw [fLabels_now]
  refine v_aload_n (pc := 0) dX1_now_0 rfl ?_
  refine v_getR (pc := 1) (q := 2) zk1 lx_14 rfl rx_14_2 tw_251 dX1_now_1 ?_
  refine v_iload_n (pc := 4) dX1_now_4 rfl ?_
  refine v_naald (pc := 5) lx_15 dX1_now_5 (fun b1 hib1 hbb1 => ?_)
  have hb1 := zN_rows hib1 hbb1
  refine v_astore_n (pc := 6) dX1_now_6 (by decide) ?_
  refine v_aload_n (pc := 7) dX1_now_7 rfl ?_
  refine v_getR (pc := 8) (q := 3) zk1 lx_14 rfl rx_14_3 tw_252 dX1_now_8 ?_
  refine v_iload_n (pc := 11) dX1_now_11 rfl ?_
  refine v_iald (pc := 12) lx_16 dX1_now_12 (fun x2 => ?_)
  refine v_aload_n (pc := 13) dX1_now_13 rfl ?_
  refine v_getR (pc := 14) (q := 0) zk1 lx_14 rfl rx_14_0 tw_249 dX1_now_14 ?_
  refine v_getI (pc := 17) (q := 2) zk3 lx_1 rfl tw_127 dX1_now_17 ?_
  refine v_icmp_eq (pc := 20) 77 dX1_now_20 (by decide) ?_ ?_
  · refine v_aload_n (pc := 77) dX1_now_77 rfl ?_
    exact v_aret (pc := 78) dX1_now_78
  · refine v_aload_n (pc := 23) dX1_now_23 rfl ?_
    refine v_getR (pc := 24) (q := 3) zk1 lx_14 rfl rx_14_3 tw_252 dX1_now_24 ?_
    refine v_iload_n (pc := 27) dX1_now_27 rfl ?_
    refine v_aload_n (pc := 28) dX1_now_28 rfl ?_
    refine v_getR (pc := 29) (q := 0) zk1 lx_14 rfl rx_14_0 tw_249 dX1_now_29 ?_
    refine v_getI (pc := 32) (q := 2) zk3 lx_1 rfl tw_127 dX1_now_32 ?_
    refine v_iast (pc := 35) lx_16 dX1_now_35 (fun M3 => ?_)
    refine v_aload_n (pc := 36) dX1_now_36 rfl ?_
    refine v_aload_n (pc := 37) dX1_now_37 rfl ?_
    refine v_getR (pc := 38) (q := 0) zk1 lx_14 rfl rx_14_0 tw_249 dX1_now_38 ?_
    refine v_getI (pc := 41) (q := 0) zk3 lx_1 rfl tw_116 dX1_now_41 ?_
    refine v_callV (pc := 44) (As := [.int (M3 1 0)]) (cNames_begin l G b1 hb1 (M3 1 0) M3) zc_X2_begin zk2 rfl hb1.1 tw_581 (by decide) (Nat.le_of_ble_eq_true rfl) dX1_now_44 (fun _ M4 => ?_)
    skip
    refine v_iload_n (pc := 47) dX1_now_47 rfl ?_
    refine v_if_ne (pc := 48) 59 dX1_now_48 (by decide) ?_ ?_
    · refine v_iload_n (pc := 59) dX1_now_59 rfl ?_
      refine v_iconst (pc := 60) 1 dX1_now_60 (by decide) ?_
      refine v_icmp_ne (pc := 61) 72 dX1_now_61 (by decide) ?_ ?_
      · refine v_aload_n (pc := 72) dX1_now_72 rfl ?_
        refine v_aload_n (pc := 73) dX1_now_73 rfl ?_
        refine v_callV (pc := 74) (As := [.ref b1]) (cLabels_nameFar l G b1 hb1 M4) zc_X1_nameFar zk1 rfl lx_14 tw_605 (by decide) (Nat.le_of_ble_eq_true rfl) dX1_now_74 (fun _ M5 => ?_)
        skip
        refine v_aload_n (pc := 77) dX1_now_77 rfl ?_
        exact v_aret (pc := 78) dX1_now_78
      · refine v_aload_n (pc := 64) dX1_now_64 rfl ?_
        refine v_aload_n (pc := 65) dX1_now_65 rfl ?_
        refine v_callV (pc := 66) (As := [.ref b1]) (cLabels_nameJoined l G b1 hb1 M4) zc_X1_nameJoined zk1 rfl lx_14 tw_595 (by decide) (Nat.le_of_ble_eq_true rfl) dX1_now_66 (fun _ M6 => ?_)
        skip
        refine v_goto (pc := 69) 77 dX1_now_69 (by decide) ?_
        refine v_aload_n (pc := 77) dX1_now_77 rfl ?_
        exact v_aret (pc := 78) dX1_now_78
    · refine v_aload_n (pc := 51) dX1_now_51 rfl ?_
      refine v_aload_n (pc := 52) dX1_now_52 rfl ?_
      refine v_callV (pc := 53) (As := [.ref b1]) (cLabels_nameAbove l G b1 hb1 M4) zc_X1_nameAbove zk1 rfl lx_14 tw_586 (by decide) (Nat.le_of_ble_eq_true rfl) dX1_now_53 (fun _ M7 => ?_)
      skip
      refine v_goto (pc := 56) 77 dX1_now_56 (by decide) ?_
      refine v_aload_n (pc := 77) dX1_now_77 rfl ?_
      exact v_aret (pc := 78) dX1_now_78
theorem cLabels_now (l : Launch) (G : zG) (v1 : Int32) (M : zM) : zC eR l G zLX zRX 5 yX1_now cX1_now 3 (some (.object "NameNets$Names")) [.ref 14, .int v1] M (fLabels_now v1 M) := zC.of (by decide) (Nat.le_of_ble_eq_true rfl) (v_sub (wLabels_now l G v1 M) rfl)
theorem dX1_turnOf_0 : decode cX1_turnOf 0 = .ok (.aload_n 0, 1) := by decide +kernel
theorem dX1_turnOf_1 : decode cX1_turnOf 1 = .ok (.iconst 1, 1) := by decide +kernel
theorem dX1_turnOf_2 : decode cX1_turnOf 2 = .ok (.invokevirtual 72, 3) := by decide +kernel
theorem dX1_turnOf_5 : decode cX1_turnOf 5 = .ok (.pop, 1) := by decide +kernel
theorem dX1_turnOf_6 : decode cX1_turnOf 6 = .ok (.aload_n 0, 1) := by decide +kernel
theorem dX1_turnOf_7 : decode cX1_turnOf 7 = .ok (.getfield 21, 3) := by decide +kernel
theorem dX1_turnOf_10 : decode cX1_turnOf 10 = .ok (.iload_n 1, 1) := by decide +kernel
theorem dX1_turnOf_11 : decode cX1_turnOf 11 = .ok (.iaload, 1) := by decide +kernel
theorem dX1_turnOf_12 : decode cX1_turnOf 12 = .ok (.ireturn, 1) := by decide +kernel
theorem wLabels_turnOf (l : Launch) (G : zG) (v1 : Int32) (M : zM) : zV eI l G zLX zRX 6 yX1_turnOf cX1_turnOf 2 (some .int) 0 [(0, .ref 14), (1, .int v1)] [] M (fLabels_turnOf v1 M) := by
  rw [fLabels_turnOf]
  refine v_aload_n (pc := 0) dX1_turnOf_0 rfl ?_
  refine v_iconst (pc := 1) 1 dX1_turnOf_1 (by decide) ?_
  refine v_callV (pc := 2) (As := [.int 1]) (cLabels_now l G 1 M) zc_X1_now zk1 rfl lx_14 tw_577 (by decide) (Nat.le_of_ble_eq_true rfl) dX1_turnOf_2 (fun r2 M1 => ?_)
  refine v_ifP (fun hgr2 => ?_)
  have hr2 := zN_of hgr2
  refine v_pop (pc := 5) dX1_turnOf_5 rfl ?_
  refine v_aload_n (pc := 6) dX1_turnOf_6 rfl ?_
  refine v_getR (pc := 7) (q := 4) zk1 lx_14 rfl rx_14_4 tw_253 dX1_turnOf_7 ?_
  refine v_iload_n (pc := 10) dX1_turnOf_10 rfl ?_
  refine v_iald (pc := 11) lx_17 dX1_turnOf_11 (fun x3 => ?_)
  exact v_iret (pc := 12) dX1_turnOf_12
theorem cLabels_turnOf (l : Launch) (G : zG) (v1 : Int32) (M : zM) : zC eI l G zLX zRX 6 yX1_turnOf cX1_turnOf 2 (some .int) [.ref 14, .int v1] M (fLabels_turnOf v1 M) := zC.of (by decide) (Nat.le_of_ble_eq_true rfl) (v_sub (wLabels_turnOf l G v1 M) rfl)
theorem dX1_rankOf_0 : decode cX1_rankOf 0 = .ok (.aload_n 0, 1) := by decide +kernel
theorem dX1_rankOf_1 : decode cX1_rankOf 1 = .ok (.iconst 2, 1) := by decide +kernel
theorem dX1_rankOf_2 : decode cX1_rankOf 2 = .ok (.invokevirtual 72, 3) := by decide +kernel
theorem dX1_rankOf_5 : decode cX1_rankOf 5 = .ok (.pop, 1) := by decide +kernel
theorem dX1_rankOf_6 : decode cX1_rankOf 6 = .ok (.aload_n 0, 1) := by decide +kernel
theorem dX1_rankOf_7 : decode cX1_rankOf 7 = .ok (.getfield 27, 3) := by decide +kernel
theorem dX1_rankOf_10 : decode cX1_rankOf 10 = .ok (.iload_n 1, 1) := by decide +kernel
theorem dX1_rankOf_11 : decode cX1_rankOf 11 = .ok (.iaload, 1) := by decide +kernel
theorem dX1_rankOf_12 : decode cX1_rankOf 12 = .ok (.ireturn, 1) := by decide +kernel
theorem wLabels_rankOf (l : Launch) (G : zG) (v1 : Int32) (M : zM) : zV eI l G zLX zRX 6 yX1_rankOf cX1_rankOf 2 (some .int) 0 [(0, .ref 14), (1, .int v1)] [] M (fLabels_rankOf v1 M) := by
  rw [fLabels_rankOf]
  refine v_aload_n (pc := 0) dX1_rankOf_0 rfl ?_
  refine v_iconst (pc := 1) 2 dX1_rankOf_1 (by decide) ?_
  refine v_callV (pc := 2) (As := [.int 2]) (cLabels_now l G 2 M) zc_X1_now zk1 rfl lx_14 tw_577 (by decide) (Nat.le_of_ble_eq_true rfl) dX1_rankOf_2 (fun r2 M1 => ?_)
  refine v_ifP (fun hgr2 => ?_)
  have hr2 := zN_of hgr2
  refine v_pop (pc := 5) dX1_rankOf_5 rfl ?_
  refine v_aload_n (pc := 6) dX1_rankOf_6 rfl ?_
  refine v_getR (pc := 7) (q := 6) zk1 lx_14 rfl rx_14_6 tw_255 dX1_rankOf_7 ?_
  refine v_iload_n (pc := 10) dX1_rankOf_10 rfl ?_
  refine v_iald (pc := 11) lx_19 dX1_rankOf_11 (fun x3 => ?_)
  exact v_iret (pc := 12) dX1_rankOf_12
theorem cLabels_rankOf (l : Launch) (G : zG) (v1 : Int32) (M : zM) : zC eI l G zLX zRX 6 yX1_rankOf cX1_rankOf 2 (some .int) [.ref 14, .int v1] M (fLabels_rankOf v1 M) := zC.of (by decide) (Nat.le_of_ble_eq_true rfl) (v_sub (wLabels_rankOf l G v1 M) rfl)
