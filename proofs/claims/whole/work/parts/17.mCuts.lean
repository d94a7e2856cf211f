theorem dX0_namesGiveNothing_0 : decode cX0_namesGiveNothing 0 = .ok (.iconst 0, 1) := by decide +kernel
theorem dX0_namesGiveNothing_1 : decode cX0_namesGiveNothing 1 = .ok (.istore_n 2, 1) := by decide +kernel
theorem dX0_namesGiveNothing_2 : decode cX0_namesGiveNothing 2 = .ok (.iconst 0, 1) := by decide +kernel
theorem dX0_namesGiveNothing_3 : decode cX0_namesGiveNothing 3 = .ok (.istore_n 3, 1) := by decide +kernel
theorem dX0_namesGiveNothing_4 : decode cX0_namesGiveNothing 4 = .ok (.iload_n 3, 1) := by decide +kernel
theorem dX0_namesGiveNothing_5 : decode cX0_namesGiveNothing 5 = .ok (.aload_n 0, 1) := by decide +kernel
theorem dX0_namesGiveNothing_6 : decode cX0_namesGiveNothing 6 = .ok (.getfield 21, 3) := by decide +kernel
theorem dX0_namesGiveNothing_9 : decode cX0_namesGiveNothing 9 = .ok (.getfield 51, 3) := by decide +kernel
theorem dX0_namesGiveNothing_12 : decode cX0_namesGiveNothing 12 = .ok (.if_icmp .ge 30, 3) := by decide +kernel
theorem dX0_namesGiveNothing_15 : decode cX0_namesGiveNothing 15 = .ok (.iload_n 1, 1) := by decide +kernel
theorem dX0_namesGiveNothing_16 : decode cX0_namesGiveNothing 16 = .ok (.iload_n 3, 1) := by decide +kernel
theorem dX0_namesGiveNothing_17 : decode cX0_namesGiveNothing 17 = .ok (.ishr, 1) := by decide +kernel
theorem dX0_namesGiveNothing_18 : decode cX0_namesGiveNothing 18 = .ok (.iconst 1, 1) := by decide +kernel
theorem dX0_namesGiveNothing_19 : decode cX0_namesGiveNothing 19 = .ok (.iand, 1) := by decide +kernel
theorem dX0_namesGiveNothing_20 : decode cX0_namesGiveNothing 20 = .ok (.iconst 1, 1) := by decide +kernel
theorem dX0_namesGiveNothing_21 : decode cX0_namesGiveNothing 21 = .ok (.if_icmp .ne 15, 3) := by decide +kernel
theorem dX0_namesGiveNothing_24 : decode cX0_namesGiveNothing 24 = .ok (.iload_n 2, 1) := by decide +kernel
theorem dX0_namesGiveNothing_25 : decode cX0_namesGiveNothing 25 = .ok (.aload_n 0, 1) := by decide +kernel
theorem dX0_namesGiveNothing_26 : decode cX0_namesGiveNothing 26 = .ok (.getfield 25, 3) := by decide +kernel
theorem dX0_namesGiveNothing_29 : decode cX0_namesGiveNothing 29 = .ok (.getfield 57, 3) := by decide +kernel
theorem dX0_namesGiveNothing_32 : decode cX0_namesGiveNothing 32 = .ok (.iload_n 3, 1) := by decide +kernel
theorem dX0_namesGiveNothing_33 : decode cX0_namesGiveNothing 33 = .ok (.iaload, 1) := by decide +kernel
theorem dX0_namesGiveNothing_34 : decode cX0_namesGiveNothing 34 = .ok (.ixor, 1) := by decide +kernel
theorem dX0_namesGiveNothing_35 : decode cX0_namesGiveNothing 35 = .ok (.istore_n 2, 1) := by decide +kernel
theorem dX0_namesGiveNothing_36 : decode cX0_namesGiveNothing 36 = .ok (.iinc 3 1, 3) := by decide +kernel
theorem dX0_namesGiveNothing_39 : decode cX0_namesGiveNothing 39 = .ok (.goto (-35), 3) := by decide +kernel
theorem dX0_namesGiveNothing_42 : decode cX0_namesGiveNothing 42 = .ok (.iload_n 2, 1) := by decide +kernel
theorem dX0_namesGiveNothing_43 : decode cX0_namesGiveNothing 43 = .ok (.ifCond .ne 7, 3) := by decide +kernel
theorem dX0_namesGiveNothing_46 : decode cX0_namesGiveNothing 46 = .ok (.iconst 1, 1) := by decide +kernel
theorem dX0_namesGiveNothing_47 : decode cX0_namesGiveNothing 47 = .ok (.goto 4, 3) := by decide +kernel
theorem dX0_namesGiveNothing_50 : decode cX0_namesGiveNothing 50 = .ok (.iconst 0, 1) := by decide +kernel
theorem dX0_namesGiveNothing_51 : decode cX0_namesGiveNothing 51 = .ok (.ireturn, 1) := by decide +kernel
theorem wCuts_namesGiveNothing_4 (l : Launch) (G : zG) : ∀ (fuel : Nat) (v1 : Int32) (v2 : Int32) (v3 : Int32) (M : zM), zV eI l G zLX zRX 1 yX0_namesGiveNothing cX0_namesGiveNothing 4 (some .boolean) 4 [(0, .ref 49), (1, .int v1), (2, .int v2), (3, .int v3)] [] M (fCuts_namesGiveNothing_4 fuel v1 v2 v3 M) := by
  intro fuel
  induction fuel with
  | zero => intro v1 v2 v3 M; exact v_none
  | succ fuel ih =>
    intro v1 v2 v3 M
    rw [fCuts_namesGiveNothing_4]
    refine v_iload_n (pc := 4) dX0_namesGiveNothing_4 rfl ?_
    refine v_aload_n (pc := 5) dX0_namesGiveNothing_5 rfl ?_
    refine v_getR (pc := 6) (q := 0) zk0 lx_49 rfl rx_49_0 tw_343 dX0_namesGiveNothing_6 ?_
    refine v_getI (pc := 9) (q := 1) zk3 lx_1 rfl tw_121 dX0_namesGiveNothing_9 ?_
    refine v_icmp_ge (pc := 12) 42 dX0_namesGiveNothing_12 (by decide) ?_ ?_
    · refine v_iload_n (pc := 42) dX0_namesGiveNothing_42 rfl ?_
      refine v_if_ne (pc := 43) 50 dX0_namesGiveNothing_43 (by decide) ?_ ?_
      · refine v_iconst (pc := 50) 0 dX0_namesGiveNothing_50 (by decide) ?_
        exact v_zret (pc := 51) dX0_namesGiveNothing_51
      · refine v_iconst (pc := 46) 1 dX0_namesGiveNothing_46 (by decide) ?_
        refine v_goto (pc := 47) 51 dX0_namesGiveNothing_47 (by decide) ?_
        exact v_zret (pc := 51) dX0_namesGiveNothing_51
    · refine v_iload_n (pc := 15) dX0_namesGiveNothing_15 rfl ?_
      refine v_iload_n (pc := 16) dX0_namesGiveNothing_16 rfl ?_
      refine v_ishr (pc := 17) dX0_namesGiveNothing_17 ?_
      refine v_iconst (pc := 18) 1 dX0_namesGiveNothing_18 (by decide) ?_
      refine v_iand (pc := 19) dX0_namesGiveNothing_19 ?_
      refine v_iconst (pc := 20) 1 dX0_namesGiveNothing_20 (by decide) ?_
      refine v_icmp_ne (pc := 21) 36 dX0_namesGiveNothing_21 (by decide) ?_ ?_
      · refine v_iinc (pc := 36) 1 dX0_namesGiveNothing_36 rfl (by decide) (by decide) ?_
        refine v_goto (pc := 39) 4 dX0_namesGiveNothing_39 (by decide) ?_
        exact v_sub (ih v1 v2 (v3 + 1) M) rfl
      · refine v_iload_n (pc := 24) dX0_namesGiveNothing_24 rfl ?_
        refine v_aload_n (pc := 25) dX0_namesGiveNothing_25 rfl ?_
        refine v_getR (pc := 26) (q := 1) zk0 lx_49 rfl rx_49_1 tw_344 dX0_namesGiveNothing_26 ?_
        refine v_getR (pc := 29) (q := 8) zk8 lx_5 rfl rx_5_8 tw_181 dX0_namesGiveNothing_29 ?_
        refine v_iload_n (pc := 32) dX0_namesGiveNothing_32 rfl ?_
        refine v_iald (pc := 33) lx_11 dX0_namesGiveNothing_33 (fun x1 => ?_)
        refine v_ixor (pc := 34) dX0_namesGiveNothing_34 ?_
        refine v_istore_nL (pc := 35) dX0_namesGiveNothing_35 (by decide) (fun u2_35 => ?_)
        refine v_iinc (pc := 36) 1 dX0_namesGiveNothing_36 rfl (by decide) (by decide) ?_
        refine v_goto (pc := 39) 4 dX0_namesGiveNothing_39 (by decide) ?_
        exact v_sub (ih v1 u2_35 (v3 + 1) M) rfl
theorem wCuts_namesGiveNothing (l : Launch) (G : zG) (v1 : Int32) (M : zM) : zV eI l G zLX zRX 1 yX0_namesGiveNothing cX0_namesGiveNothing 4 (some .boolean) 0 [(0, .ref 49), (1, .int v1)] [] M (fCuts_namesGiveNothing v1 M) := by
  rw [fCuts_namesGiveNothing]
  refine v_iconst (pc := 0) 0 dX0_namesGiveNothing_0 (by decide) ?_
  refine v_istore_n (pc := 1) dX0_namesGiveNothing_1 (by decide) ?_
  refine v_iconst (pc := 2) 0 dX0_namesGiveNothing_2 (by decide) ?_
  refine v_istore_n (pc := 3) dX0_namesGiveNothing_3 (by decide) ?_
  exact v_sub (wCuts_namesGiveNothing_4 l G FU v1 0 0 M) rfl
theorem cCuts_namesGiveNothing (l : Launch) (G : zG) (v1 : Int32) (M : zM) : zC eI l G zLX zRX 1 yX0_namesGiveNothing cX0_namesGiveNothing 4 (some .boolean) [.ref 49, .int v1] M (fCuts_namesGiveNothing v1 M) := zC.of (by decide) (Nat.le_of_ble_eq_true rfl) (v_sub (wCuts_namesGiveNothing l G v1 M) rfl)
theorem dX0_parts_0 : decode cX0_parts 0 = .ok (.aload_n 0, 1) := by decide +kernel
theorem dX0_parts_1 : decode cX0_parts 1 = .ok (.getfield 25, 3) := by decide +kernel
theorem dX0_parts_4 : decode cX0_parts 4 = .ok (.invokevirtual 29, 3) := by decide +kernel
theorem dX0_parts_7 : decode cX0_parts 7 = .ok (.astore 4, 2) := by decide +kernel
theorem dX0_parts_9 : decode cX0_parts 9 = .ok (.aload 4, 2) := by decide +kernel
theorem dX0_parts_11 : decode cX0_parts 11 = .ok (.getfield 35, 3) := by decide +kernel
theorem dX0_parts_14 : decode cX0_parts 14 = .ok (.iload_n 1, 1) := by decide +kernel
theorem dX0_parts_15 : decode cX0_parts 15 = .ok (.iaload, 1) := by decide +kernel
theorem dX0_parts_16 : decode cX0_parts 16 = .ok (.aload 4, 2) := by decide +kernel
theorem dX0_parts_18 : decode cX0_parts 18 = .ok (.getfield 35, 3) := by decide +kernel
theorem dX0_parts_21 : decode cX0_parts 21 = .ok (.iload_n 2, 1) := by decide +kernel
theorem dX0_parts_22 : decode cX0_parts 22 = .ok (.iaload, 1) := by decide +kernel
theorem dX0_parts_23 : decode cX0_parts 23 = .ok (.if_icmp .eq 5, 3) := by decide +kernel
theorem dX0_parts_26 : decode cX0_parts 26 = .ok (.iconst 1, 1) := by decide +kernel
theorem dX0_parts_27 : decode cX0_parts 27 = .ok (.ireturn, 1) := by decide +kernel
theorem dX0_parts_28 : decode cX0_parts 28 = .ok (.aload 4, 2) := by decide +kernel
theorem dX0_parts_30 : decode cX0_parts 30 = .ok (.getfield 38, 3) := by decide +kernel
theorem dX0_parts_33 : decode cX0_parts 33 = .ok (.iload_n 1, 1) := by decide +kernel
theorem dX0_parts_34 : decode cX0_parts 34 = .ok (.iaload, 1) := by decide +kernel
theorem dX0_parts_35 : decode cX0_parts 35 = .ok (.aload 4, 2) := by decide +kernel
theorem dX0_parts_37 : decode cX0_parts 37 = .ok (.getfield 38, 3) := by decide +kernel
theorem dX0_parts_40 : decode cX0_parts 40 = .ok (.iload_n 2, 1) := by decide +kernel
theorem dX0_parts_41 : decode cX0_parts 41 = .ok (.iaload, 1) := by decide +kernel
theorem dX0_parts_42 : decode cX0_parts 42 = .ok (.ixor, 1) := by decide +kernel
theorem dX0_parts_43 : decode cX0_parts 43 = .ok (.istore 5, 2) := by decide +kernel
theorem dX0_parts_45 : decode cX0_parts 45 = .ok (.iload_n 3, 1) := by decide +kernel
theorem dX0_parts_46 : decode cX0_parts 46 = .ok (.istore 6, 2) := by decide +kernel
theorem dX0_parts_48 : decode cX0_parts 48 = .ok (.iload 6, 2) := by decide +kernel
theorem dX0_parts_50 : decode cX0_parts 50 = .ok (.ifCond .le 39, 3) := by decide +kernel
theorem dX0_parts_53 : decode cX0_parts 53 = .ok (.iload 6, 2) := by decide +kernel
theorem dX0_parts_55 : decode cX0_parts 55 = .ok (.iload 5, 2) := by decide +kernel
theorem dX0_parts_57 : decode cX0_parts 57 = .ok (.iand, 1) := by decide +kernel
theorem dX0_parts_58 : decode cX0_parts 58 = .ok (.invokestatic 41, 3) := by decide +kernel
theorem dX0_parts_61 : decode cX0_parts 61 = .ok (.iconst 2, 1) := by decide +kernel
theorem dX0_parts_62 : decode cX0_parts 62 = .ok (.irem, 1) := by decide +kernel
theorem dX0_parts_63 : decode cX0_parts 63 = .ok (.iconst 1, 1) := by decide +kernel
theorem dX0_parts_64 : decode cX0_parts 64 = .ok (.if_icmp .ne 14, 3) := by decide +kernel
theorem dX0_parts_67 : decode cX0_parts 67 = .ok (.aload_n 0, 1) := by decide +kernel
theorem dX0_parts_68 : decode cX0_parts 68 = .ok (.iload 6, 2) := by decide +kernel
theorem dX0_parts_70 : decode cX0_parts 70 = .ok (.invokevirtual 47, 3) := by decide +kernel
theorem dX0_parts_73 : decode cX0_parts 73 = .ok (.ifCond .eq 5, 3) := by decide +kernel
theorem dX0_parts_76 : decode cX0_parts 76 = .ok (.iconst 1, 1) := by decide +kernel
theorem dX0_parts_77 : decode cX0_parts 77 = .ok (.ireturn, 1) := by decide +kernel
theorem dX0_parts_78 : decode cX0_parts 78 = .ok (.iload 6, 2) := by decide +kernel
theorem dX0_parts_80 : decode cX0_parts 80 = .ok (.iconst 1, 1) := by decide +kernel
theorem dX0_parts_81 : decode cX0_parts 81 = .ok (.isub, 1) := by decide +kernel
theorem dX0_parts_82 : decode cX0_parts 82 = .ok (.iload_n 3, 1) := by decide +kernel
theorem dX0_parts_83 : decode cX0_parts 83 = .ok (.iand, 1) := by decide +kernel
theorem dX0_parts_84 : decode cX0_parts 84 = .ok (.istore 6, 2) := by decide +kernel
theorem dX0_parts_86 : decode cX0_parts 86 = .ok (.goto (-38), 3) := by decide +kernel
theorem dX0_parts_89 : decode cX0_parts 89 = .ok (.iconst 0, 1) := by decide +kernel
theorem dX0_parts_90 : decode cX0_parts 90 = .ok (.ireturn, 1) := by decide +kernel
theorem wCuts_parts_48 (l : Launch) (G : zG) : ∀ (fuel : Nat) (v3 : Int32) (v5 : Int32) (v6 : Int32) (M : zM), zV eI l G zLX zRX 4 yX0_parts cX0_parts 7 (some .boolean) 48 [(0, .ref 49), (3, .int v3), (5, .int v5), (6, .int v6)] [] M (fCuts_parts_48 fuel v3 v5 v6 M) := by
  intro fuel
  induction fuel with
  | zero => intro v3 v5 v6 M; exact v_none
  | succ fuel ih =>
    intro v3 v5 v6 M
    rw [fCuts_parts_48]
    refine v_iload (pc := 48) dX0_parts_48 rfl ?_
    refine v_if_le (pc := 50) 89 dX0_parts_50 (by decide) ?_ ?_
    · refine v_iconst (pc := 89) 0 dX0_parts_89 (by decide) ?_
      exact v_zret (pc := 90) dX0_parts_90
    · refine v_iload (pc := 53) dX0_parts_53 rfl ?_
      refine v_iload (pc := 55) dX0_parts_55 rfl ?_
      refine v_iand (pc := 57) dX0_parts_57 ?_
      refine v_callS (pc := 58) (As := [.int (v6 &&& v5)]) (cJ6_bitCount l G (v6 &&& v5) M) zc_J6_bitCount_0f7a4 tw_685 (by decide) (Nat.le_of_ble_eq_true rfl) dX0_parts_58 (fun r2 M1 => ?_)
      refine v_iconst (pc := 61) 2 dX0_parts_61 (by decide) ?_
      refine v_irem (pc := 62) dX0_parts_62 (fun z3 => ?_)
      refine v_iconst (pc := 63) 1 dX0_parts_63 (by decide) ?_
      refine v_icmp_ne (pc := 64) 78 dX0_parts_64 (by decide) ?_ ?_
      · refine v_iload (pc := 78) dX0_parts_78 rfl ?_
        refine v_iconst (pc := 80) 1 dX0_parts_80 (by decide) ?_
        refine v_isub (pc := 81) dX0_parts_81 ?_
        refine v_iload_n (pc := 82) dX0_parts_82 rfl ?_
        refine v_iand (pc := 83) dX0_parts_83 ?_
        refine v_istoreL (pc := 84) dX0_parts_84 (by decide) (fun u6_84 => ?_)
        refine v_goto (pc := 86) 48 dX0_parts_86 (by decide) ?_
        exact v_sub (ih v3 v5 u6_84 M1) rfl
      · refine v_aload_n (pc := 67) dX0_parts_67 rfl ?_
        refine v_iload (pc := 68) dX0_parts_68 rfl ?_
        refine v_callV (pc := 70) (As := [.int v6]) (cCuts_namesGiveNothing l G v6 M1) zc_X0_namesGiveNothing zk0 rfl lx_49 tw_686 (by decide) (Nat.le_of_ble_eq_true rfl) dX0_parts_70 (fun r5 M4 => ?_)
        refine v_if_eq (pc := 73) 78 dX0_parts_73 (by decide) ?_ ?_
        · refine v_iload (pc := 78) dX0_parts_78 rfl ?_
          refine v_iconst (pc := 80) 1 dX0_parts_80 (by decide) ?_
          refine v_isub (pc := 81) dX0_parts_81 ?_
          refine v_iload_n (pc := 82) dX0_parts_82 rfl ?_
          refine v_iand (pc := 83) dX0_parts_83 ?_
          refine v_istoreL (pc := 84) dX0_parts_84 (by decide) (fun u6_84 => ?_)
          refine v_goto (pc := 86) 48 dX0_parts_86 (by decide) ?_
          exact v_sub (ih v3 v5 u6_84 M4) rfl
        · refine v_iconst (pc := 76) 1 dX0_parts_76 (by decide) ?_
          exact v_zret (pc := 77) dX0_parts_77
theorem wCuts_parts (l : Launch) (G : zG) (v1 : Int32) (v2 : Int32) (v3 : Int32) (M : zM) : zV eI l G zLX zRX 4 yX0_parts cX0_parts 7 (some .boolean) 0 [(0, .ref 49), (1, .int v1), (2, .int v2), (3, .int v3)] [] M (fCuts_parts v1 v2 v3 M) := by
  rw [fCuts_parts]
  refine v_aload_n (pc := 0) dX0_parts_0 rfl ?_
  refine v_getR (pc := 1) (q := 1) zk0 lx_49 rfl rx_49_1 tw_344 dX0_parts_1 ?_
  refine v_callV (pc := 4) (As := []) (cTree_fresh l G  M) zc_X8_fresh zk8 rfl lx_5 tw_684 (by decide) (Nat.le_of_ble_eq_true rfl) dX0_parts_4 (fun r2 M1 => ?_)
  refine v_ifP (fun hgr2 => ?_)
  subst hgr2
  refine v_astore (pc := 7) dX0_parts_7 (by decide) ?_
  refine v_aload (pc := 9) dX0_parts_9 rfl ?_
  refine v_getR (pc := 11) (q := 4) zk8 lx_5 rfl rx_5_4 tw_169 dX0_parts_11 ?_
  refine v_iload_n (pc := 14) dX0_parts_14 rfl ?_
  refine v_iald (pc := 15) lx_7 dX0_parts_15 (fun x3 => ?_)
  refine v_aload (pc := 16) dX0_parts_16 rfl ?_
  refine v_getR (pc := 18) (q := 4) zk8 lx_5 rfl rx_5_4 tw_169 dX0_parts_18 ?_
  refine v_iload_n (pc := 21) dX0_parts_21 rfl ?_
  refine v_iald (pc := 22) lx_7 dX0_parts_22 (fun x4 => ?_)
  refine v_icmp_eq (pc := 23) 28 dX0_parts_23 (by decide) ?_ ?_
  · refine v_aload (pc := 28) dX0_parts_28 rfl ?_
    refine v_getR (pc := 30) (q := 5) zk8 lx_5 rfl rx_5_5 tw_173 dX0_parts_30 ?_
    refine v_iload_n (pc := 33) dX0_parts_33 rfl ?_
    refine v_iald (pc := 34) lx_8 dX0_parts_34 (fun x5 => ?_)
    refine v_aload (pc := 35) dX0_parts_35 rfl ?_
    refine v_getR (pc := 37) (q := 5) zk8 lx_5 rfl rx_5_5 tw_173 dX0_parts_37 ?_
    refine v_iload_n (pc := 40) dX0_parts_40 rfl ?_
    refine v_iald (pc := 41) lx_8 dX0_parts_41 (fun x6 => ?_)
    refine v_ixor (pc := 42) dX0_parts_42 ?_
    refine v_istoreL (pc := 43) dX0_parts_43 (by decide) (fun u5_43 => ?_)
    refine v_iload_n (pc := 45) dX0_parts_45 rfl ?_
    refine v_istore (pc := 46) dX0_parts_46 (by decide) ?_
    exact v_sub (wCuts_parts_48 l G FU v3 u5_43 v3 M1) rfl
  · refine v_iconst (pc := 26) 1 dX0_parts_26 (by decide) ?_
    exact v_zret (pc := 27) dX0_parts_27
theorem cCuts_parts (l : Launch) (G : zG) (v1 : Int32) (v2 : Int32) (v3 : Int32) (M : zM) : zC eI l G zLX zRX 4 yX0_parts cX0_parts 7 (some .boolean) [.ref 49, .int v1, .int v2, .int v3] M (fCuts_parts v1 v2 v3 M) := zC.of (by decide) (Nat.le_of_ble_eq_true rfl) (v_sub (wCuts_parts l G v1 v2 v3 M) rfl)
theorem dX0_search_0 : decode cX0_search 0 = .ok (.iload_n 2, 1) := by decide +kernel
theorem dX0_search_1 : decode cX0_search 1 = .ok (.ifCond .gt 19, 3) := by decide +kernel
theorem dX0_search_4 : decode cX0_search 4 = .ok (.iload_n 3, 1) := by decide +kernel
theorem dX0_search_5 : decode cX0_search 5 = .ok (.ifCond .ne 13, 3) := by decide +kernel
theorem dX0_search_8 : decode cX0_search 8 = .ok (.iload 4, 2) := by decide +kernel
theorem dX0_search_10 : decode cX0_search 10 = .ok (.iconst 1, 1) := by decide +kernel
theorem dX0_search_11 : decode cX0_search 11 = .ok (.if_icmp .ne 7, 3) := by decide +kernel
theorem dX0_search_14 : decode cX0_search 14 = .ok (.iconst 0, 1) := by decide +kernel
theorem dX0_search_15 : decode cX0_search 15 = .ok (.goto 4, 3) := by decide +kernel
theorem dX0_search_18 : decode cX0_search 18 = .ok (.iconst (-1), 1) := by decide +kernel
theorem dX0_search_19 : decode cX0_search 19 = .ok (.ireturn, 1) := by decide +kernel
theorem dX0_search_20 : decode cX0_search 20 = .ok (.iload_n 1, 1) := by decide +kernel
theorem dX0_search_21 : decode cX0_search 21 = .ok (.istore 6, 2) := by decide +kernel
theorem dX0_search_23 : decode cX0_search 23 = .ok (.iload 6, 2) := by decide +kernel
theorem dX0_search_25 : decode cX0_search 25 = .ok (.aload_n 0, 1) := by decide +kernel
theorem dX0_search_26 : decode cX0_search 26 = .ok (.getfield 21, 3) := by decide +kernel
theorem dX0_search_29 : decode cX0_search 29 = .ok (.getfield 51, 3) := by decide +kernel
theorem dX0_search_32 : decode cX0_search 32 = .ok (.if_icmp .ge 60, 3) := by decide +kernel
theorem dX0_search_35 : decode cX0_search 35 = .ok (.aload_n 0, 1) := by decide +kernel
theorem dX0_search_36 : decode cX0_search 36 = .ok (.iload 6, 2) := by decide +kernel
theorem dX0_search_38 : decode cX0_search 38 = .ok (.iconst 1, 1) := by decide +kernel
theorem dX0_search_39 : decode cX0_search 39 = .ok (.iadd, 1) := by decide +kernel
theorem dX0_search_40 : decode cX0_search 40 = .ok (.iload_n 2, 1) := by decide +kernel
theorem dX0_search_41 : decode cX0_search 41 = .ok (.iconst 1, 1) := by decide +kernel
theorem dX0_search_42 : decode cX0_search 42 = .ok (.isub, 1) := by decide +kernel
theorem dX0_search_43 : decode cX0_search 43 = .ok (.iload_n 3, 1) := by decide +kernel
theorem dX0_search_44 : decode cX0_search 44 = .ok (.aload_n 0, 1) := by decide +kernel
theorem dX0_search_45 : decode cX0_search 45 = .ok (.getfield 25, 3) := by decide +kernel
theorem dX0_search_48 : decode cX0_search 48 = .ok (.getfield 57, 3) := by decide +kernel
theorem dX0_search_51 : decode cX0_search 51 = .ok (.iload 6, 2) := by decide +kernel
theorem dX0_search_53 : decode cX0_search 53 = .ok (.iaload, 1) := by decide +kernel
theorem dX0_search_54 : decode cX0_search 54 = .ok (.ixor, 1) := by decide +kernel
theorem dX0_search_55 : decode cX0_search 55 = .ok (.iload 4, 2) := by decide +kernel
theorem dX0_search_57 : decode cX0_search 57 = .ok (.iload 5, 2) := by decide +kernel
theorem dX0_search_59 : decode cX0_search 59 = .ok (.iload 6, 2) := by decide +kernel
theorem dX0_search_61 : decode cX0_search 61 = .ok (.ishr, 1) := by decide +kernel
theorem dX0_search_62 : decode cX0_search 62 = .ok (.iconst 1, 1) := by decide +kernel
theorem dX0_search_63 : decode cX0_search 63 = .ok (.iand, 1) := by decide +kernel
theorem dX0_search_64 : decode cX0_search 64 = .ok (.ixor, 1) := by decide +kernel
theorem dX0_search_65 : decode cX0_search 65 = .ok (.iload 5, 2) := by decide +kernel
theorem dX0_search_67 : decode cX0_search 67 = .ok (.invokevirtual 60, 3) := by decide +kernel
theorem dX0_search_70 : decode cX0_search 70 = .ok (.istore 7, 2) := by decide +kernel
theorem dX0_search_72 : decode cX0_search 72 = .ok (.iload 7, 2) := by decide +kernel
theorem dX0_search_74 : decode cX0_search 74 = .ok (.iconst (-1), 1) := by decide +kernel
theorem dX0_search_75 : decode cX0_search 75 = .ok (.if_icmp .eq 11, 3) := by decide +kernel
theorem dX0_search_78 : decode cX0_search 78 = .ok (.iload 7, 2) := by decide +kernel
theorem dX0_search_80 : decode cX0_search 80 = .ok (.iconst 1, 1) := by decide +kernel
theorem dX0_search_81 : decode cX0_search 81 = .ok (.iload 6, 2) := by decide +kernel
theorem dX0_search_83 : decode cX0_search 83 = .ok (.ishl, 1) := by decide +kernel
theorem dX0_search_84 : decode cX0_search 84 = .ok (.ior, 1) := by decide +kernel
theorem dX0_search_85 : decode cX0_search 85 = .ok (.ireturn, 1) := by decide +kernel
theorem dX0_search_86 : decode cX0_search 86 = .ok (.iinc 6 1, 3) := by decide +kernel
theorem dX0_search_89 : decode cX0_search 89 = .ok (.goto (-66), 3) := by decide +kernel
theorem dX0_search_92 : decode cX0_search 92 = .ok (.iconst (-1), 1) := by decide +kernel
theorem dX0_search_93 : decode cX0_search 93 = .ok (.ireturn, 1) := by decide +kernel
theorem wCuts_search_23 (l : Launch) (G : zG) (d : Nat) (slf : Int32 → Int32 → Int32 → Int32 → Int32 → zM → Option (Int32 × zM)) (hslf : ∀ (v1 : Int32) (v2 : Int32) (v3 : Int32) (v4 : Int32) (v5 : Int32) (M : zM), zC eI l G zLX zRX (1 + d) yX0_search cX0_search 8 (some .int) [.ref 49, .int v1, .int v2, .int v3, .int v4, .int v5] M (slf v1 v2 v3 v4 v5 M)) : ∀ (fuel : Nat) (v2 : Int32) (v3 : Int32) (v4 : Int32) (v5 : Int32) (v6 : Int32) (M : zM), zV eI l G zLX zRX (1 + d + 1) yX0_search cX0_search 8 (some .int) 23 [(0, .ref 49), (2, .int v2), (3, .int v3), (4, .int v4), (5, .int v5), (6, .int v6)] [] M (fCuts_search_23 slf fuel v2 v3 v4 v5 v6 M) := by
  intro fuel
  induction fuel with
  | zero => intro v2 v3 v4 v5 v6 M; exact v_none
  | succ fuel ih =>
    intro v2 v3 v4 v5 v6 M
    rw [fCuts_search_23]
    refine v_iload (pc := 23) dX0_search_23 rfl ?_
    refine v_aload_n (pc := 25) dX0_search_25 rfl ?_
    refine v_getR (pc := 26) (q := 0) zk0 lx_49 rfl rx_49_0 tw_343 dX0_search_26 ?_
    refine v_getI (pc := 29) (q := 1) zk3 lx_1 rfl tw_121 dX0_search_29 ?_
    refine v_icmp_ge (pc := 32) 92 dX0_search_32 (by decide) ?_ ?_
    · refine v_iconst (pc := 92) (-1) dX0_search_92 (by decide) ?_
      exact v_iret (pc := 93) dX0_search_93
    · refine v_aload_n (pc := 35) dX0_search_35 rfl ?_
      refine v_iload (pc := 36) dX0_search_36 rfl ?_
      refine v_iconst (pc := 38) 1 dX0_search_38 (by decide) ?_
      refine v_iadd (pc := 39) dX0_search_39 ?_
      refine v_iload_n (pc := 40) dX0_search_40 rfl ?_
      refine v_iconst (pc := 41) 1 dX0_search_41 (by decide) ?_
      refine v_isub (pc := 42) dX0_search_42 ?_
      refine v_iload_n (pc := 43) dX0_search_43 rfl ?_
      refine v_aload_n (pc := 44) dX0_search_44 rfl ?_
      refine v_getR (pc := 45) (q := 1) zk0 lx_49 rfl rx_49_1 tw_344 dX0_search_45 ?_
      refine v_getR (pc := 48) (q := 8) zk8 lx_5 rfl rx_5_8 tw_181 dX0_search_48 ?_
      refine v_iload (pc := 51) dX0_search_51 rfl ?_
      refine v_iald (pc := 53) lx_11 dX0_search_53 (fun x1 => ?_)
      refine v_ixor (pc := 54) dX0_search_54 ?_
      refine v_iload (pc := 55) dX0_search_55 rfl ?_
      refine v_iload (pc := 57) dX0_search_57 rfl ?_
      refine v_iload (pc := 59) dX0_search_59 rfl ?_
      refine v_ishr (pc := 61) dX0_search_61 ?_
      refine v_iconst (pc := 62) 1 dX0_search_62 (by decide) ?_
      refine v_iand (pc := 63) dX0_search_63 ?_
      refine v_ixor (pc := 64) dX0_search_64 ?_
      refine v_iload (pc := 65) dX0_search_65 rfl ?_
      refine v_callV (pc := 67) (As := [.int (v6 + 1), .int (v2 - 1), .int (v3 ^^^ x1), .int (v4 ^^^ ((zshr v5 v6) &&& 1)), .int v5]) (hslf (v6 + 1) (v2 - 1) (v3 ^^^ x1) (v4 ^^^ ((zshr v5 v6) &&& 1)) v5 M) zc_X0_search zk0 rfl lx_49 tw_813 (by omega) (Nat.le_of_ble_eq_true rfl) dX0_search_67 (fun r3 M2 => ?_)
      refine v_istore (pc := 70) dX0_search_70 (by decide) ?_
      refine v_iload (pc := 72) dX0_search_72 rfl ?_
      refine v_iconst (pc := 74) (-1) dX0_search_74 (by decide) ?_
      refine v_icmp_eq (pc := 75) 86 dX0_search_75 (by decide) ?_ ?_
      · refine v_iinc (pc := 86) 1 dX0_search_86 rfl (by decide) (by decide) ?_
        refine v_goto (pc := 89) 23 dX0_search_89 (by decide) ?_
        exact v_sub (ih v2 v3 v4 v5 (v6 + 1) M2) rfl
      · refine v_iload (pc := 78) dX0_search_78 rfl ?_
        refine v_iconst (pc := 80) 1 dX0_search_80 (by decide) ?_
        refine v_iload (pc := 81) dX0_search_81 rfl ?_
        refine v_ishl (pc := 83) dX0_search_83 ?_
        refine v_ior (pc := 84) dX0_search_84 ?_
        exact v_iret (pc := 85) dX0_search_85
theorem wCuts_search_b (l : Launch) (G : zG) (d : Nat) (slf : Int32 → Int32 → Int32 → Int32 → Int32 → zM → Option (Int32 × zM)) (hslf : ∀ (v1 : Int32) (v2 : Int32) (v3 : Int32) (v4 : Int32) (v5 : Int32) (M : zM), zC eI l G zLX zRX (1 + d) yX0_search cX0_search 8 (some .int) [.ref 49, .int v1, .int v2, .int v3, .int v4, .int v5] M (slf v1 v2 v3 v4 v5 M)) (v1 : Int32) (v2 : Int32) (v3 : Int32) (v4 : Int32) (v5 : Int32) (M : zM) : zV eI l G zLX zRX (1 + d + 1) yX0_search cX0_search 8 (some .int) 0 [(0, .ref 49), (1, .int v1), (2, .int v2), (3, .int v3), (4, .int v4), (5, .int v5)] [] M (fCuts_search_b slf v1 v2 v3 v4 v5 M) := by
  rw [fCuts_search_b]
  refine v_iload_n (pc := 0) dX0_search_0 rfl ?_
  refine v_if_gt (pc := 1) 20 dX0_search_1 (by decide) ?_ ?_
  · refine v_iload_n (pc := 20) dX0_search_20 rfl ?_
    refine v_istore (pc := 21) dX0_search_21 (by decide) ?_
    exact v_sub (wCuts_search_23 l G d slf hslf FU v2 v3 v4 v5 v1 M) rfl
  · refine v_iload_n (pc := 4) dX0_search_4 rfl ?_
    refine v_if_ne (pc := 5) 18 dX0_search_5 (by decide) ?_ ?_
    · refine v_iconst (pc := 18) (-1) dX0_search_18 (by decide) ?_
      exact v_iret (pc := 19) dX0_search_19
    · refine v_iload (pc := 8) dX0_search_8 rfl ?_
      refine v_iconst (pc := 10) 1 dX0_search_10 (by decide) ?_
      refine v_icmp_ne (pc := 11) 18 dX0_search_11 (by decide) ?_ ?_
      · refine v_iconst (pc := 18) (-1) dX0_search_18 (by decide) ?_
        exact v_iret (pc := 19) dX0_search_19
      · refine v_iconst (pc := 14) 0 dX0_search_14 (by decide) ?_
        refine v_goto (pc := 15) 19 dX0_search_15 (by decide) ?_
        exact v_iret (pc := 19) dX0_search_19
theorem cCuts_search (l : Launch) (G : zG) : ∀ (d : Nat) (v1 : Int32) (v2 : Int32) (v3 : Int32) (v4 : Int32) (v5 : Int32) (M : zM), zC eI l G zLX zRX (1 + d) yX0_search cX0_search 8 (some .int) [.ref 49, .int v1, .int v2, .int v3, .int v4, .int v5] M (fCuts_search d v1 v2 v3 v4 v5 M) := by
  intro d
  induction d with
  | zero => intro v1 v2 v3 v4 v5 M r M1 h; cases h
  | succ d ih =>
    intro v1 v2 v3 v4 v5 M
    rw [fCuts_search]
    exact zC.of (by decide) (Nat.le_of_ble_eq_true rfl) (v_sub (wCuts_search_b l G d (fCuts_search d) ih v1 v2 v3 v4 v5 M) rfl)
theorem dX0_fewest_0 : decode cX0_fewest 0 = .ok (.aload_n 0, 1) := by decide +kernel
theorem dX0_fewest_1 : decode cX0_fewest 1 = .ok (.getfield 25, 3) := by decide +kernel
theorem dX0_fewest_4 : decode cX0_fewest 4 = .ok (.invokevirtual 29, 3) := by decide +kernel
theorem dX0_fewest_7 : decode cX0_fewest 7 = .ok (.astore_n 3, 1) := by decide +kernel
theorem dX0_fewest_8 : decode cX0_fewest 8 = .ok (.aload_n 3, 1) := by decide +kernel
theorem dX0_fewest_9 : decode cX0_fewest 9 = .ok (.getfield 35, 3) := by decide +kernel
theorem dX0_fewest_12 : decode cX0_fewest 12 = .ok (.iload_n 1, 1) := by decide +kernel
theorem dX0_fewest_13 : decode cX0_fewest 13 = .ok (.iaload, 1) := by decide +kernel
theorem dX0_fewest_14 : decode cX0_fewest 14 = .ok (.aload_n 3, 1) := by decide +kernel
theorem dX0_fewest_15 : decode cX0_fewest 15 = .ok (.getfield 35, 3) := by decide +kernel
theorem dX0_fewest_18 : decode cX0_fewest 18 = .ok (.iload_n 2, 1) := by decide +kernel
theorem dX0_fewest_19 : decode cX0_fewest 19 = .ok (.iaload, 1) := by decide +kernel
theorem dX0_fewest_20 : decode cX0_fewest 20 = .ok (.if_icmp .eq 5, 3) := by decide +kernel
theorem dX0_fewest_23 : decode cX0_fewest 23 = .ok (.iconst 0, 1) := by decide +kernel
theorem dX0_fewest_24 : decode cX0_fewest 24 = .ok (.ireturn, 1) := by decide +kernel
theorem dX0_fewest_25 : decode cX0_fewest 25 = .ok (.aload_n 3, 1) := by decide +kernel
theorem dX0_fewest_26 : decode cX0_fewest 26 = .ok (.getfield 38, 3) := by decide +kernel
theorem dX0_fewest_29 : decode cX0_fewest 29 = .ok (.iload_n 1, 1) := by decide +kernel
theorem dX0_fewest_30 : decode cX0_fewest 30 = .ok (.iaload, 1) := by decide +kernel
theorem dX0_fewest_31 : decode cX0_fewest 31 = .ok (.aload_n 3, 1) := by decide +kernel
theorem dX0_fewest_32 : decode cX0_fewest 32 = .ok (.getfield 38, 3) := by decide +kernel
theorem dX0_fewest_35 : decode cX0_fewest 35 = .ok (.iload_n 2, 1) := by decide +kernel
theorem dX0_fewest_36 : decode cX0_fewest 36 = .ok (.iaload, 1) := by decide +kernel
theorem dX0_fewest_37 : decode cX0_fewest 37 = .ok (.ixor, 1) := by decide +kernel
theorem dX0_fewest_38 : decode cX0_fewest 38 = .ok (.istore 4, 2) := by decide +kernel
theorem dX0_fewest_40 : decode cX0_fewest 40 = .ok (.iconst 1, 1) := by decide +kernel
theorem dX0_fewest_41 : decode cX0_fewest 41 = .ok (.istore 5, 2) := by decide +kernel
theorem dX0_fewest_43 : decode cX0_fewest 43 = .ok (.iload 5, 2) := by decide +kernel
theorem dX0_fewest_45 : decode cX0_fewest 45 = .ok (.iconst 3, 1) := by decide +kernel
theorem dX0_fewest_46 : decode cX0_fewest 46 = .ok (.if_icmp .gt 31, 3) := by decide +kernel
theorem dX0_fewest_49 : decode cX0_fewest 49 = .ok (.aload_n 0, 1) := by decide +kernel
theorem dX0_fewest_50 : decode cX0_fewest 50 = .ok (.iconst 0, 1) := by decide +kernel
theorem dX0_fewest_51 : decode cX0_fewest 51 = .ok (.iload 5, 2) := by decide +kernel
theorem dX0_fewest_53 : decode cX0_fewest 53 = .ok (.iconst 0, 1) := by decide +kernel
theorem dX0_fewest_54 : decode cX0_fewest 54 = .ok (.iconst 0, 1) := by decide +kernel
theorem dX0_fewest_55 : decode cX0_fewest 55 = .ok (.iload 4, 2) := by decide +kernel
theorem dX0_fewest_57 : decode cX0_fewest 57 = .ok (.invokevirtual 60, 3) := by decide +kernel
theorem dX0_fewest_60 : decode cX0_fewest 60 = .ok (.istore 6, 2) := by decide +kernel
theorem dX0_fewest_62 : decode cX0_fewest 62 = .ok (.iload 6, 2) := by decide +kernel
theorem dX0_fewest_64 : decode cX0_fewest 64 = .ok (.iconst (-1), 1) := by decide +kernel
theorem dX0_fewest_65 : decode cX0_fewest 65 = .ok (.if_icmp .eq 6, 3) := by decide +kernel
theorem dX0_fewest_68 : decode cX0_fewest 68 = .ok (.iload 6, 2) := by decide +kernel
theorem dX0_fewest_70 : decode cX0_fewest 70 = .ok (.ireturn, 1) := by decide +kernel
theorem dX0_fewest_71 : decode cX0_fewest 71 = .ok (.iinc 5 1, 3) := by decide +kernel
theorem dX0_fewest_74 : decode cX0_fewest 74 = .ok (.goto (-31), 3) := by decide +kernel
theorem dX0_fewest_77 : decode cX0_fewest 77 = .ok (.iconst (-1), 1) := by decide +kernel
theorem dX0_fewest_78 : decode cX0_fewest 78 = .ok (.ireturn, 1) := by decide +kernel
theorem wCuts_fewest_43 (l : Launch) (G : zG) : ∀ (fuel : Nat) (v4 : Int32) (v5 : Int32) (M : zM), zV eI l G zLX zRX 10 yX0_fewest cX0_fewest 7 (some .int) 43 [(0, .ref 49), (4, .int v4), (5, .int v5)] [] M (fCuts_fewest_43 fuel v4 v5 M) := by
  intro fuel
  induction fuel with
  | zero => intro v4 v5 M; exact v_none
  | succ fuel ih =>
    intro v4 v5 M
    rw [fCuts_fewest_43]
    refine v_iload (pc := 43) dX0_fewest_43 rfl ?_
    refine v_iconst (pc := 45) 3 dX0_fewest_45 (by decide) ?_
    refine v_icmp_gt (pc := 46) 77 dX0_fewest_46 (by decide) ?_ ?_
    · refine v_iconst (pc := 77) (-1) dX0_fewest_77 (by decide) ?_
      exact v_iret (pc := 78) dX0_fewest_78
    · refine v_aload_n (pc := 49) dX0_fewest_49 rfl ?_
      refine v_iconst (pc := 50) 0 dX0_fewest_50 (by decide) ?_
      refine v_iload (pc := 51) dX0_fewest_51 rfl ?_
      refine v_iconst (pc := 53) 0 dX0_fewest_53 (by decide) ?_
      refine v_iconst (pc := 54) 0 dX0_fewest_54 (by decide) ?_
      refine v_iload (pc := 55) dX0_fewest_55 rfl ?_
      refine v_callV (pc := 57) (As := [.int 0, .int v5, .int 0, .int 0, .int v4]) (cCuts_search l G 8 0 v5 0 0 v4 M) zc_X0_search zk0 rfl lx_49 tw_813 (by decide) (Nat.le_of_ble_eq_true rfl) dX0_fewest_57 (fun r2 M1 => ?_)
      refine v_istore (pc := 60) dX0_fewest_60 (by decide) ?_
      refine v_iload (pc := 62) dX0_fewest_62 rfl ?_
      refine v_iconst (pc := 64) (-1) dX0_fewest_64 (by decide) ?_
      refine v_icmp_eq (pc := 65) 71 dX0_fewest_65 (by decide) ?_ ?_
      · refine v_iinc (pc := 71) 1 dX0_fewest_71 rfl (by decide) (by decide) ?_
        refine v_goto (pc := 74) 43 dX0_fewest_74 (by decide) ?_
        exact v_sub (ih v4 (v5 + 1) M1) rfl
      · refine v_iload (pc := 68) dX0_fewest_68 rfl ?_
        exact v_iret (pc := 70) dX0_fewest_70
theorem wCuts_fewest (l : Launch) (G : zG) (v1 : Int32) (v2 : Int32) (M : zM) : zV eI l G zLX zRX 10 yX0_fewest cX0_fewest 7 (some .int) 0 [(0, .ref 49), (1, .int v1), (2, .int v2)] [] M (fCuts_fewest v1 v2 M) := by
  rw [fCuts_fewest]
  refine v_aload_n (pc := 0) dX0_fewest_0 rfl ?_
  refine v_getR (pc := 1) (q := 1) zk0 lx_49 rfl rx_49_1 tw_344 dX0_fewest_1 ?_
  refine v_callV (pc := 4) (As := []) (cTree_fresh l G  M) zc_X8_fresh zk8 rfl lx_5 tw_684 (by decide) (Nat.le_of_ble_eq_true rfl) dX0_fewest_4 (fun r2 M1 => ?_)
  refine v_ifP (fun hgr2 => ?_)
  subst hgr2
  refine v_astore_n (pc := 7) dX0_fewest_7 (by decide) ?_
  refine v_aload_n (pc := 8) dX0_fewest_8 rfl ?_
  refine v_getR (pc := 9) (q := 4) zk8 lx_5 rfl rx_5_4 tw_169 dX0_fewest_9 ?_
  refine v_iload_n (pc := 12) dX0_fewest_12 rfl ?_
  refine v_iald (pc := 13) lx_7 dX0_fewest_13 (fun x3 => ?_)
  refine v_aload_n (pc := 14) dX0_fewest_14 rfl ?_
  refine v_getR (pc := 15) (q := 4) zk8 lx_5 rfl rx_5_4 tw_169 dX0_fewest_15 ?_
  refine v_iload_n (pc := 18) dX0_fewest_18 rfl ?_
  refine v_iald (pc := 19) lx_7 dX0_fewest_19 (fun x4 => ?_)
  refine v_icmp_eq (pc := 20) 25 dX0_fewest_20 (by decide) ?_ ?_
  · refine v_aload_n (pc := 25) dX0_fewest_25 rfl ?_
    refine v_getR (pc := 26) (q := 5) zk8 lx_5 rfl rx_5_5 tw_173 dX0_fewest_26 ?_
    refine v_iload_n (pc := 29) dX0_fewest_29 rfl ?_
    refine v_iald (pc := 30) lx_8 dX0_fewest_30 (fun x5 => ?_)
    refine v_aload_n (pc := 31) dX0_fewest_31 rfl ?_
    refine v_getR (pc := 32) (q := 5) zk8 lx_5 rfl rx_5_5 tw_173 dX0_fewest_32 ?_
    refine v_iload_n (pc := 35) dX0_fewest_35 rfl ?_
    refine v_iald (pc := 36) lx_8 dX0_fewest_36 (fun x6 => ?_)
    refine v_ixor (pc := 37) dX0_fewest_37 ?_
    refine v_istoreL (pc := 38) dX0_fewest_38 (by decide) (fun u4_38 => ?_)
    refine v_iconst (pc := 40) 1 dX0_fewest_40 (by decide) ?_
    refine v_istore (pc := 41) dX0_fewest_41 (by decide) ?_
    exact v_sub (wCuts_fewest_43 l G FU u4_38 1 M1) rfl
  · refine v_iconst (pc := 23) 0 dX0_fewest_23 (by decide) ?_
    exact v_iret (pc := 24) dX0_fewest_24
theorem cCuts_fewest (l : Launch) (G : zG) (v1 : Int32) (v2 : Int32) (M : zM) : zC eI l G zLX zRX 10 yX0_fewest cX0_fewest 7 (some .int) [.ref 49, .int v1, .int v2] M (fCuts_fewest v1 v2 M) := zC.of (by decide) (Nat.le_of_ble_eq_true rfl) (v_sub (wCuts_fewest l G v1 v2 M) rfl)
theorem dX0_reach_0 : decode cX0_reach 0 = .ok (.iconst 1, 1) := by decide +kernel
theorem dX0_reach_1 : decode cX0_reach 1 = .ok (.iload_n 1, 1) := by decide +kernel
theorem dX0_reach_2 : decode cX0_reach 2 = .ok (.ishl, 1) := by decide +kernel
theorem dX0_reach_3 : decode cX0_reach 3 = .ok (.istore_n 3, 1) := by decide +kernel
theorem dX0_reach_4 : decode cX0_reach 4 = .ok (.iconst 1, 1) := by decide +kernel
theorem dX0_reach_5 : decode cX0_reach 5 = .ok (.istore 4, 2) := by decide +kernel
theorem dX0_reach_7 : decode cX0_reach 7 = .ok (.aload_n 0, 1) := by decide +kernel
theorem dX0_reach_8 : decode cX0_reach 8 = .ok (.getfield 15, 3) := by decide +kernel
theorem dX0_reach_11 : decode cX0_reach 11 = .ok (.iconst 0, 1) := by decide +kernel
theorem dX0_reach_12 : decode cX0_reach 12 = .ok (.iload_n 1, 1) := by decide +kernel
theorem dX0_reach_13 : decode cX0_reach 13 = .ok (.iastore, 1) := by decide +kernel
theorem dX0_reach_14 : decode cX0_reach 14 = .ok (.iconst 0, 1) := by decide +kernel
theorem dX0_reach_15 : decode cX0_reach 15 = .ok (.istore 5, 2) := by decide +kernel
theorem dX0_reach_17 : decode cX0_reach 17 = .ok (.iload 5, 2) := by decide +kernel
theorem dX0_reach_19 : decode cX0_reach 19 = .ok (.iload 4, 2) := by decide +kernel
theorem dX0_reach_21 : decode cX0_reach 21 = .ok (.if_icmp .ge 104, 3) := by decide +kernel
theorem dX0_reach_24 : decode cX0_reach 24 = .ok (.iload 5, 2) := by decide +kernel
theorem dX0_reach_26 : decode cX0_reach 26 = .ok (.aload_n 0, 1) := by decide +kernel
theorem dX0_reach_27 : decode cX0_reach 27 = .ok (.getfield 21, 3) := by decide +kernel
theorem dX0_reach_30 : decode cX0_reach 30 = .ok (.getfield 81, 3) := by decide +kernel
theorem dX0_reach_33 : decode cX0_reach 33 = .ok (.if_icmp .ge 92, 3) := by decide +kernel
theorem dX0_reach_36 : decode cX0_reach 36 = .ok (.aload_n 0, 1) := by decide +kernel
theorem dX0_reach_37 : decode cX0_reach 37 = .ok (.getfield 15, 3) := by decide +kernel
theorem dX0_reach_40 : decode cX0_reach 40 = .ok (.iload 5, 2) := by decide +kernel
theorem dX0_reach_42 : decode cX0_reach 42 = .ok (.iaload, 1) := by decide +kernel
theorem dX0_reach_43 : decode cX0_reach 43 = .ok (.istore 6, 2) := by decide +kernel
theorem dX0_reach_45 : decode cX0_reach 45 = .ok (.iconst 0, 1) := by decide +kernel
theorem dX0_reach_46 : decode cX0_reach 46 = .ok (.istore 7, 2) := by decide +kernel
theorem dX0_reach_48 : decode cX0_reach 48 = .ok (.iload 7, 2) := by decide +kernel
theorem dX0_reach_50 : decode cX0_reach 50 = .ok (.aload_n 0, 1) := by decide +kernel
theorem dX0_reach_51 : decode cX0_reach 51 = .ok (.getfield 21, 3) := by decide +kernel
theorem dX0_reach_54 : decode cX0_reach 54 = .ok (.getfield 81, 3) := by decide +kernel
theorem dX0_reach_57 : decode cX0_reach 57 = .ok (.if_icmp .ge 62, 3) := by decide +kernel
theorem dX0_reach_60 : decode cX0_reach 60 = .ok (.aload_n 0, 1) := by decide +kernel
theorem dX0_reach_61 : decode cX0_reach 61 = .ok (.getfield 9, 3) := by decide +kernel
theorem dX0_reach_64 : decode cX0_reach 64 = .ok (.iload 6, 2) := by decide +kernel
theorem dX0_reach_66 : decode cX0_reach 66 = .ok (.iaload, 1) := by decide +kernel
theorem dX0_reach_67 : decode cX0_reach 67 = .ok (.iload 7, 2) := by decide +kernel
theorem dX0_reach_69 : decode cX0_reach 69 = .ok (.ishr, 1) := by decide +kernel
theorem dX0_reach_70 : decode cX0_reach 70 = .ok (.iconst 1, 1) := by decide +kernel
theorem dX0_reach_71 : decode cX0_reach 71 = .ok (.iand, 1) := by decide +kernel
theorem dX0_reach_72 : decode cX0_reach 72 = .ok (.iconst 1, 1) := by decide +kernel
theorem dX0_reach_73 : decode cX0_reach 73 = .ok (.if_icmp .ne 40, 3) := by decide +kernel
theorem dX0_reach_76 : decode cX0_reach 76 = .ok (.iload_n 3, 1) := by decide +kernel
theorem dX0_reach_77 : decode cX0_reach 77 = .ok (.iload 7, 2) := by decide +kernel
theorem dX0_reach_79 : decode cX0_reach 79 = .ok (.ishr, 1) := by decide +kernel
theorem dX0_reach_80 : decode cX0_reach 80 = .ok (.iconst 1, 1) := by decide +kernel
theorem dX0_reach_81 : decode cX0_reach 81 = .ok (.iand, 1) := by decide +kernel
theorem dX0_reach_82 : decode cX0_reach 82 = .ok (.ifCond .ne 31, 3) := by decide +kernel
theorem dX0_reach_85 : decode cX0_reach 85 = .ok (.iload_n 3, 1) := by decide +kernel
theorem dX0_reach_86 : decode cX0_reach 86 = .ok (.iconst 1, 1) := by decide +kernel
theorem dX0_reach_87 : decode cX0_reach 87 = .ok (.iload 7, 2) := by decide +kernel
theorem dX0_reach_89 : decode cX0_reach 89 = .ok (.ishl, 1) := by decide +kernel
theorem dX0_reach_90 : decode cX0_reach 90 = .ok (.ior, 1) := by decide +kernel
theorem dX0_reach_91 : decode cX0_reach 91 = .ok (.istore_n 3, 1) := by decide +kernel
theorem dX0_reach_92 : decode cX0_reach 92 = .ok (.aload_n 0, 1) := by decide +kernel
theorem dX0_reach_93 : decode cX0_reach 93 = .ok (.getfield 18, 3) := by decide +kernel
theorem dX0_reach_96 : decode cX0_reach 96 = .ok (.iload 7, 2) := by decide +kernel
theorem dX0_reach_98 : decode cX0_reach 98 = .ok (.iload 6, 2) := by decide +kernel
theorem dX0_reach_100 : decode cX0_reach 100 = .ok (.iastore, 1) := by decide +kernel
theorem dX0_reach_101 : decode cX0_reach 101 = .ok (.aload_n 0, 1) := by decide +kernel
theorem dX0_reach_102 : decode cX0_reach 102 = .ok (.getfield 15, 3) := by decide +kernel
theorem dX0_reach_105 : decode cX0_reach 105 = .ok (.iload 4, 2) := by decide +kernel
theorem dX0_reach_107 : decode cX0_reach 107 = .ok (.iload 7, 2) := by decide +kernel
theorem dX0_reach_109 : decode cX0_reach 109 = .ok (.iastore, 1) := by decide +kernel
theorem dX0_reach_110 : decode cX0_reach 110 = .ok (.iinc 4 1, 3) := by decide +kernel
theorem dX0_reach_113 : decode cX0_reach 113 = .ok (.iinc 7 1, 3) := by decide +kernel
theorem dX0_reach_116 : decode cX0_reach 116 = .ok (.goto (-68), 3) := by decide +kernel
theorem dX0_reach_119 : decode cX0_reach 119 = .ok (.iinc 5 1, 3) := by decide +kernel
theorem dX0_reach_122 : decode cX0_reach 122 = .ok (.goto (-105), 3) := by decide +kernel
theorem dX0_reach_125 : decode cX0_reach 125 = .ok (.iload_n 3, 1) := by decide +kernel
theorem dX0_reach_126 : decode cX0_reach 126 = .ok (.iload_n 2, 1) := by decide +kernel
theorem dX0_reach_127 : decode cX0_reach 127 = .ok (.ishr, 1) := by decide +kernel
theorem dX0_reach_128 : decode cX0_reach 128 = .ok (.iconst 1, 1) := by decide +kernel
theorem dX0_reach_129 : decode cX0_reach 129 = .ok (.iand, 1) := by decide +kernel
theorem dX0_reach_130 : decode cX0_reach 130 = .ok (.iconst 1, 1) := by decide +kernel
theorem dX0_reach_131 : decode cX0_reach 131 = .ok (.if_icmp .ne 7, 3) := by decide +kernel
theorem dX0_reach_134 : decode cX0_reach 134 = .ok (.iconst 1, 1) := by decide +kernel
theorem dX0_reach_135 : decode cX0_reach 135 = .ok (.goto 4, 3) := by decide +kernel
theorem dX0_reach_138 : decode cX0_reach 138 = .ok (.iconst 0, 1) := by decide +kernel
theorem dX0_reach_139 : decode cX0_reach 139 = .ok (.ireturn, 1) := by decide +kernel
theorem wCuts_reach_48 (l : Launch) (G : zG) (k17 : Int32 → Int32 → Int32 → Int32 → zM → Option (Int32 × zM)) (hk17 : ∀ (v2 : Int32) (v3 : Int32) (v4 : Int32) (v5 : Int32) (M : zM), zV eI l G zLX zRX 1 yX0_reach cX0_reach 8 (some .boolean) 17 [(0, .ref 49), (2, .int v2), (3, .int v3), (4, .int v4), (5, .int v5)] [] M (k17 v2 v3 v4 v5 M)) : ∀ (fuel : Nat) (v2 : Int32) (v3 : Int32) (v4 : Int32) (v5 : Int32) (v6 : Int32) (v7 : Int32) (M : zM), zV eI l G zLX zRX 1 yX0_reach cX0_reach 8 (some .boolean) 48 [(0, .ref 49), (2, .int v2), (3, .int v3), (4, .int v4), (5, .int v5), (6, .int v6), (7, .int v7)] [] M (fCuts_reach_48 k17 fuel v2 v3 v4 v5 v6 v7 M) := by
  intro fuel
  induction fuel with
  | zero => intro v2 v3 v4 v5 v6 v7 M; exact v_none
  | succ fuel ih =>
    intro v2 v3 v4 v5 v6 v7 M
    rw [fCuts_reach_48]
    refine v_iload (pc := 48) dX0_reach_48 rfl ?_
    refine v_aload_n (pc := 50) dX0_reach_50 rfl ?_
    refine v_getR (pc := 51) (q := 0) zk0 lx_49 rfl rx_49_0 tw_343 dX0_reach_51 ?_
    refine v_getI (pc := 54) (q := 0) zk3 lx_1 rfl tw_119 dX0_reach_54 ?_
    refine v_icmp_ge (pc := 57) 119 dX0_reach_57 (by decide) ?_ ?_
    · refine v_iinc (pc := 119) 1 dX0_reach_119 rfl (by decide) (by decide) ?_
      refine v_goto (pc := 122) 17 dX0_reach_122 (by decide) ?_
      exact v_sub (hk17 v2 v3 v4 (v5 + 1) M) rfl
    · refine v_aload_n (pc := 60) dX0_reach_60 rfl ?_
      refine v_getR (pc := 61) (q := 2) zk0 lx_49 rfl rx_49_2 tw_345 dX0_reach_61 ?_
      refine v_iload (pc := 64) dX0_reach_64 rfl ?_
      refine v_iald (pc := 66) lx_50 dX0_reach_66 (fun x1 => ?_)
      refine v_iload (pc := 67) dX0_reach_67 rfl ?_
      refine v_ishr (pc := 69) dX0_reach_69 ?_
      refine v_iconst (pc := 70) 1 dX0_reach_70 (by decide) ?_
      refine v_iand (pc := 71) dX0_reach_71 ?_
      refine v_iconst (pc := 72) 1 dX0_reach_72 (by decide) ?_
      refine v_icmp_ne (pc := 73) 113 dX0_reach_73 (by decide) ?_ ?_
      · refine v_iinc (pc := 113) 1 dX0_reach_113 rfl (by decide) (by decide) ?_
        refine v_goto (pc := 116) 48 dX0_reach_116 (by decide) ?_
        exact v_sub (ih v2 v3 v4 v5 v6 (v7 + 1) M) rfl
      · refine v_iload_n (pc := 76) dX0_reach_76 rfl ?_
        refine v_iload (pc := 77) dX0_reach_77 rfl ?_
        refine v_ishr (pc := 79) dX0_reach_79 ?_
        refine v_iconst (pc := 80) 1 dX0_reach_80 (by decide) ?_
        refine v_iand (pc := 81) dX0_reach_81 ?_
        refine v_if_ne (pc := 82) 113 dX0_reach_82 (by decide) ?_ ?_
        · refine v_iinc (pc := 113) 1 dX0_reach_113 rfl (by decide) (by decide) ?_
          refine v_goto (pc := 116) 48 dX0_reach_116 (by decide) ?_
          exact v_sub (ih v2 v3 v4 v5 v6 (v7 + 1) M) rfl
        · refine v_iload_n (pc := 85) dX0_reach_85 rfl ?_
          refine v_iconst (pc := 86) 1 dX0_reach_86 (by decide) ?_
          refine v_iload (pc := 87) dX0_reach_87 rfl ?_
          refine v_ishl (pc := 89) dX0_reach_89 ?_
          refine v_ior (pc := 90) dX0_reach_90 ?_
          refine v_istore_nL (pc := 91) dX0_reach_91 (by decide) (fun u3_91 => ?_)
          refine v_aload_n (pc := 92) dX0_reach_92 rfl ?_
          refine v_getR (pc := 93) (q := 4) zk0 lx_49 rfl rx_49_4 tw_347 dX0_reach_93 ?_
          refine v_iload (pc := 96) dX0_reach_96 rfl ?_
          refine v_iload (pc := 98) dX0_reach_98 rfl ?_
          refine v_iast (pc := 100) lx_52 dX0_reach_100 (fun M2 => ?_)
          refine v_aload_n (pc := 101) dX0_reach_101 rfl ?_
          refine v_getR (pc := 102) (q := 3) zk0 lx_49 rfl rx_49_3 tw_346 dX0_reach_102 ?_
          refine v_iload (pc := 105) dX0_reach_105 rfl ?_
          refine v_iload (pc := 107) dX0_reach_107 rfl ?_
          refine v_iast (pc := 109) lx_51 dX0_reach_109 (fun M3 => ?_)
          refine v_iinc (pc := 110) 1 dX0_reach_110 rfl (by decide) (by decide) ?_
          refine v_iinc (pc := 113) 1 dX0_reach_113 rfl (by decide) (by decide) ?_
          refine v_goto (pc := 116) 48 dX0_reach_116 (by decide) ?_
          exact v_sub (ih v2 u3_91 (v4 + 1) v5 v6 (v7 + 1) M3) rfl
theorem wCuts_reach_125 (l : Launch) (G : zG) (v2 : Int32) (v3 : Int32) (M : zM) : zV eI l G zLX zRX 1 yX0_reach cX0_reach 8 (some .boolean) 125 [(2, .int v2), (3, .int v3)] [] M (fCuts_reach_125 v2 v3 M) := by
  rw [fCuts_reach_125]
  refine v_iload_n (pc := 125) dX0_reach_125 rfl ?_
  refine v_iload_n (pc := 126) dX0_reach_126 rfl ?_
  refine v_ishr (pc := 127) dX0_reach_127 ?_
  refine v_iconst (pc := 128) 1 dX0_reach_128 (by decide) ?_
  refine v_iand (pc := 129) dX0_reach_129 ?_
  refine v_iconst (pc := 130) 1 dX0_reach_130 (by decide) ?_
  refine v_icmp_ne (pc := 131) 138 dX0_reach_131 (by decide) ?_ ?_
  · refine v_iconst (pc := 138) 0 dX0_reach_138 (by decide) ?_
    exact v_zret (pc := 139) dX0_reach_139
  · refine v_iconst (pc := 134) 1 dX0_reach_134 (by decide) ?_
    refine v_goto (pc := 135) 139 dX0_reach_135 (by decide) ?_
    exact v_zret (pc := 139) dX0_reach_139
theorem wCuts_reach_17 (l : Launch) (G : zG) : ∀ (fuel : Nat) (v2 : Int32) (v3 : Int32) (v4 : Int32) (v5 : Int32) (M : zM), zV eI l G zLX zRX 1 yX0_reach cX0_reach 8 (some .boolean) 17 [(0, .ref 49), (2, .int v2), (3, .int v3), (4, .int v4), (5, .int v5)] [] M (fCuts_reach_17 fuel v2 v3 v4 v5 M) := by
  intro fuel
  induction fuel with
  | zero => intro v2 v3 v4 v5 M; exact v_none
  | succ fuel ih =>
    intro v2 v3 v4 v5 M
    rw [fCuts_reach_17]
    refine v_iload (pc := 17) dX0_reach_17 rfl ?_
    refine v_iload (pc := 19) dX0_reach_19 rfl ?_
    refine v_icmp_ge (pc := 21) 125 dX0_reach_21 (by decide) ?_ ?_
    · exact v_sub (wCuts_reach_125 l G v2 v3 M) rfl
    · refine v_iload (pc := 24) dX0_reach_24 rfl ?_
      refine v_aload_n (pc := 26) dX0_reach_26 rfl ?_
      refine v_getR (pc := 27) (q := 0) zk0 lx_49 rfl rx_49_0 tw_343 dX0_reach_27 ?_
      refine v_getI (pc := 30) (q := 0) zk3 lx_1 rfl tw_119 dX0_reach_30 ?_
      refine v_icmp_ge (pc := 33) 125 dX0_reach_33 (by decide) ?_ ?_
      · exact v_sub (wCuts_reach_125 l G v2 v3 M) rfl
      · refine v_aload_n (pc := 36) dX0_reach_36 rfl ?_
        refine v_getR (pc := 37) (q := 3) zk0 lx_49 rfl rx_49_3 tw_346 dX0_reach_37 ?_
        refine v_iload (pc := 40) dX0_reach_40 rfl ?_
        refine v_iald (pc := 42) lx_51 dX0_reach_42 (fun x1 => ?_)
        refine v_istore (pc := 43) dX0_reach_43 (by decide) ?_
        refine v_iconst (pc := 45) 0 dX0_reach_45 (by decide) ?_
        refine v_istore (pc := 46) dX0_reach_46 (by decide) ?_
        exact v_sub (wCuts_reach_48 l G (fCuts_reach_17 fuel) ih FU v2 v3 v4 v5 x1 0 M) rfl
theorem wCuts_reach (l : Launch) (G : zG) (v1 : Int32) (v2 : Int32) (M : zM) : zV eI l G zLX zRX 1 yX0_reach cX0_reach 8 (some .boolean) 0 [(0, .ref 49), (1, .int v1), (2, .int v2)] [] M (fCuts_reach v1 v2 M) := by
  rw [fCuts_reach]
  refine v_iconst (pc := 0) 1 dX0_reach_0 (by decide) ?_
  refine v_iload_n (pc := 1) dX0_reach_1 rfl ?_
  refine v_ishl (pc := 2) dX0_reach_2 ?_
  refine v_istore_nL (pc := 3) dX0_reach_3 (by decide) (fun u3_3 => ?_)
  refine v_iconst (pc := 4) 1 dX0_reach_4 (by decide) ?_
  refine v_istore (pc := 5) dX0_reach_5 (by decide) ?_
  refine v_aload_n (pc := 7) dX0_reach_7 rfl ?_
  refine v_getR (pc := 8) (q := 3) zk0 lx_49 rfl rx_49_3 tw_346 dX0_reach_8 ?_
  refine v_iconst (pc := 11) 0 dX0_reach_11 (by decide) ?_
  refine v_iload_n (pc := 12) dX0_reach_12 rfl ?_
  refine v_iast (pc := 13) lx_51 dX0_reach_13 (fun M1 => ?_)
  refine v_iconst (pc := 14) 0 dX0_reach_14 (by decide) ?_
  refine v_istore (pc := 15) dX0_reach_15 (by decide) ?_
  exact v_sub (wCuts_reach_17 l G FU v2 u3_3 1 0 M1) rfl
theorem cCuts_reach (l : Launch) (G : zG) (v1 : Int32) (v2 : Int32) (M : zM) : zC eI l G zLX zRX 1 yX0_reach cX0_reach 8 (some .boolean) [.ref 49, .int v1, .int v2] M (fCuts_reach v1 v2 M) := zC.of (by decide) (Nat.le_of_ble_eq_true rfl) (v_sub (wCuts_reach l G v1 v2 M) rfl)
theorem dX0_takeWay_0 : decode cX0_takeWay 0 = .ok (.iload_n 2, 1) := by decide +kernel
theorem dX0_takeWay_1 : decode cX0_takeWay 1 = .ok (.istore_n 3, 1) := by decide +kernel
theorem dX0_takeWay_2 : decode cX0_takeWay 2 = .ok (.iconst 0, 1) := by decide +kernel
theorem dX0_takeWay_3 : decode cX0_takeWay 3 = .ok (.istore 4, 2) := by decide +kernel
theorem dX0_takeWay_5 : decode cX0_takeWay 5 = .ok (.iload 4, 2) := by decide +kernel
theorem dX0_takeWay_7 : decode cX0_takeWay 7 = .ok (.bipush 12, 2) := by decide +kernel
theorem dX0_takeWay_9 : decode cX0_takeWay 9 = .ok (.if_icmp .ge 71, 3) := by decide +kernel
theorem dX0_takeWay_12 : decode cX0_takeWay 12 = .ok (.iload_n 3, 1) := by decide +kernel
theorem dX0_takeWay_13 : decode cX0_takeWay 13 = .ok (.iload_n 1, 1) := by decide +kernel
theorem dX0_takeWay_14 : decode cX0_takeWay 14 = .ok (.if_icmp .eq 66, 3) := by decide +kernel
theorem dX0_takeWay_17 : decode cX0_takeWay 17 = .ok (.aload_n 0, 1) := by decide +kernel
theorem dX0_takeWay_18 : decode cX0_takeWay 18 = .ok (.getfield 18, 3) := by decide +kernel
theorem dX0_takeWay_21 : decode cX0_takeWay 21 = .ok (.iload_n 3, 1) := by decide +kernel
theorem dX0_takeWay_22 : decode cX0_takeWay 22 = .ok (.iaload, 1) := by decide +kernel
theorem dX0_takeWay_23 : decode cX0_takeWay 23 = .ok (.istore 5, 2) := by decide +kernel
theorem dX0_takeWay_25 : decode cX0_takeWay 25 = .ok (.aload_n 0, 1) := by decide +kernel
theorem dX0_takeWay_26 : decode cX0_takeWay 26 = .ok (.getfield 9, 3) := by decide +kernel
theorem dX0_takeWay_29 : decode cX0_takeWay 29 = .ok (.iload_n 3, 1) := by decide +kernel
theorem dX0_takeWay_30 : decode cX0_takeWay 30 = .ok (.iaload, 1) := by decide +kernel
theorem dX0_takeWay_31 : decode cX0_takeWay 31 = .ok (.iload 5, 2) := by decide +kernel
theorem dX0_takeWay_33 : decode cX0_takeWay 33 = .ok (.ishr, 1) := by decide +kernel
theorem dX0_takeWay_34 : decode cX0_takeWay 34 = .ok (.iconst 1, 1) := by decide +kernel
theorem dX0_takeWay_35 : decode cX0_takeWay 35 = .ok (.iand, 1) := by decide +kernel
theorem dX0_takeWay_36 : decode cX0_takeWay 36 = .ok (.iconst 1, 1) := by decide +kernel
theorem dX0_takeWay_37 : decode cX0_takeWay 37 = .ok (.if_icmp .ne 21, 3) := by decide +kernel
theorem dX0_takeWay_40 : decode cX0_takeWay 40 = .ok (.aload_n 0, 1) := by decide +kernel
theorem dX0_takeWay_41 : decode cX0_takeWay 41 = .ok (.getfield 9, 3) := by decide +kernel
theorem dX0_takeWay_44 : decode cX0_takeWay 44 = .ok (.iload 5, 2) := by decide +kernel
theorem dX0_takeWay_46 : decode cX0_takeWay 46 = .ok (.dup2, 1) := by decide +kernel
theorem dX0_takeWay_47 : decode cX0_takeWay 47 = .ok (.iaload, 1) := by decide +kernel
theorem dX0_takeWay_48 : decode cX0_takeWay 48 = .ok (.iconst 1, 1) := by decide +kernel
theorem dX0_takeWay_49 : decode cX0_takeWay 49 = .ok (.iload_n 3, 1) := by decide +kernel
theorem dX0_takeWay_50 : decode cX0_takeWay 50 = .ok (.ishl, 1) := by decide +kernel
theorem dX0_takeWay_51 : decode cX0_takeWay 51 = .ok (.iconst (-1), 1) := by decide +kernel
theorem dX0_takeWay_52 : decode cX0_takeWay 52 = .ok (.ixor, 1) := by decide +kernel
theorem dX0_takeWay_53 : decode cX0_takeWay 53 = .ok (.iand, 1) := by decide +kernel
theorem dX0_takeWay_54 : decode cX0_takeWay 54 = .ok (.iastore, 1) := by decide +kernel
theorem dX0_takeWay_55 : decode cX0_takeWay 55 = .ok (.goto 16, 3) := by decide +kernel
theorem dX0_takeWay_58 : decode cX0_takeWay 58 = .ok (.aload_n 0, 1) := by decide +kernel
theorem dX0_takeWay_59 : decode cX0_takeWay 59 = .ok (.getfield 9, 3) := by decide +kernel
theorem dX0_takeWay_62 : decode cX0_takeWay 62 = .ok (.iload_n 3, 1) := by decide +kernel
theorem dX0_takeWay_63 : decode cX0_takeWay 63 = .ok (.dup2, 1) := by decide +kernel
theorem dX0_takeWay_64 : decode cX0_takeWay 64 = .ok (.iaload, 1) := by decide +kernel
theorem dX0_takeWay_65 : decode cX0_takeWay 65 = .ok (.iconst 1, 1) := by decide +kernel
theorem dX0_takeWay_66 : decode cX0_takeWay 66 = .ok (.iload 5, 2) := by decide +kernel
theorem dX0_takeWay_68 : decode cX0_takeWay 68 = .ok (.ishl, 1) := by decide +kernel
theorem dX0_takeWay_69 : decode cX0_takeWay 69 = .ok (.ior, 1) := by decide +kernel
theorem dX0_takeWay_70 : decode cX0_takeWay 70 = .ok (.iastore, 1) := by decide +kernel
theorem dX0_takeWay_71 : decode cX0_takeWay 71 = .ok (.iload 5, 2) := by decide +kernel
theorem dX0_takeWay_73 : decode cX0_takeWay 73 = .ok (.istore_n 3, 1) := by decide +kernel
theorem dX0_takeWay_74 : decode cX0_takeWay 74 = .ok (.iinc 4 1, 3) := by decide +kernel
theorem dX0_takeWay_77 : decode cX0_takeWay 77 = .ok (.goto (-72), 3) := by decide +kernel
theorem dX0_takeWay_80 : decode cX0_takeWay 80 = .ok (.return_, 1) := by decide +kernel
theorem wCuts_takeWay_5 (l : Launch) (G : zG) : ∀ (fuel : Nat) (v1 : Int32) (v3 : Int32) (v4 : Int32) (M : zM), zV eV l G zLX zRX 1 yX0_takeWay cX0_takeWay 6 none 5 [(0, .ref 49), (1, .int v1), (3, .int v3), (4, .int v4)] [] M (fCuts_takeWay_5 fuel v1 v3 v4 M) := by
  intro fuel
  induction fuel with
  | zero => intro v1 v3 v4 M; exact v_none
  | succ fuel ih =>
    intro v1 v3 v4 M
    rw [fCuts_takeWay_5]
    refine v_iload (pc := 5) dX0_takeWay_5 rfl ?_
    refine v_bipush (pc := 7) 12 dX0_takeWay_7 (by decide) ?_
    refine v_icmp_ge (pc := 9) 80 dX0_takeWay_9 (by decide) ?_ ?_
    · exact v_vret (pc := 80) dX0_takeWay_80
    · refine v_iload_n (pc := 12) dX0_takeWay_12 rfl ?_
      refine v_iload_n (pc := 13) dX0_takeWay_13 rfl ?_
      refine v_icmp_eq (pc := 14) 80 dX0_takeWay_14 (by decide) ?_ ?_
      · exact v_vret (pc := 80) dX0_takeWay_80
      · refine v_aload_n (pc := 17) dX0_takeWay_17 rfl ?_
        refine v_getR (pc := 18) (q := 4) zk0 lx_49 rfl rx_49_4 tw_347 dX0_takeWay_18 ?_
        refine v_iload_n (pc := 21) dX0_takeWay_21 rfl ?_
        refine v_iald (pc := 22) lx_52 dX0_takeWay_22 (fun x1 => ?_)
        refine v_istore (pc := 23) dX0_takeWay_23 (by decide) ?_
        refine v_aload_n (pc := 25) dX0_takeWay_25 rfl ?_
        refine v_getR (pc := 26) (q := 2) zk0 lx_49 rfl rx_49_2 tw_345 dX0_takeWay_26 ?_
        refine v_iload_n (pc := 29) dX0_takeWay_29 rfl ?_
        refine v_iald (pc := 30) lx_50 dX0_takeWay_30 (fun x2 => ?_)
        refine v_iload (pc := 31) dX0_takeWay_31 rfl ?_
        refine v_ishr (pc := 33) dX0_takeWay_33 ?_
        refine v_iconst (pc := 34) 1 dX0_takeWay_34 (by decide) ?_
        refine v_iand (pc := 35) dX0_takeWay_35 ?_
        refine v_iconst (pc := 36) 1 dX0_takeWay_36 (by decide) ?_
        refine v_icmp_ne (pc := 37) 58 dX0_takeWay_37 (by decide) ?_ ?_
        · refine v_aload_n (pc := 58) dX0_takeWay_58 rfl ?_
          refine v_getR (pc := 59) (q := 2) zk0 lx_49 rfl rx_49_2 tw_345 dX0_takeWay_59 ?_
          refine v_iload_n (pc := 62) dX0_takeWay_62 rfl ?_
          refine v_dup2 (pc := 63) dX0_takeWay_63 rfl rfl ?_
          refine v_iald (pc := 64) lx_50 dX0_takeWay_64 (fun x3 => ?_)
          refine v_iconst (pc := 65) 1 dX0_takeWay_65 (by decide) ?_
          refine v_iload (pc := 66) dX0_takeWay_66 rfl ?_
          refine v_ishl (pc := 68) dX0_takeWay_68 ?_
          refine v_ior (pc := 69) dX0_takeWay_69 ?_
          refine v_iast (pc := 70) lx_50 dX0_takeWay_70 (fun M4 => ?_)
          refine v_iload (pc := 71) dX0_takeWay_71 rfl ?_
          refine v_istore_n (pc := 73) dX0_takeWay_73 (by decide) ?_
          refine v_iinc (pc := 74) 1 dX0_takeWay_74 rfl (by decide) (by decide) ?_
          refine v_goto (pc := 77) 5 dX0_takeWay_77 (by decide) ?_
          exact v_sub (ih v1 x1 (v4 + 1) M4) rfl
        · refine v_aload_n (pc := 40) dX0_takeWay_40 rfl ?_
          refine v_getR (pc := 41) (q := 2) zk0 lx_49 rfl rx_49_2 tw_345 dX0_takeWay_41 ?_
          refine v_iload (pc := 44) dX0_takeWay_44 rfl ?_
          refine v_dup2 (pc := 46) dX0_takeWay_46 rfl rfl ?_
          refine v_iald (pc := 47) lx_50 dX0_takeWay_47 (fun x5 => ?_)
          refine v_iconst (pc := 48) 1 dX0_takeWay_48 (by decide) ?_
          refine v_iload_n (pc := 49) dX0_takeWay_49 rfl ?_
          refine v_ishl (pc := 50) dX0_takeWay_50 ?_
          refine v_iconst (pc := 51) (-1) dX0_takeWay_51 (by decide) ?_
          refine v_ixor (pc := 52) dX0_takeWay_52 ?_
          refine v_iand (pc := 53) dX0_takeWay_53 ?_
          refine v_iast (pc := 54) lx_50 dX0_takeWay_54 (fun M6 => ?_)
          refine v_goto (pc := 55) 71 dX0_takeWay_55 (by decide) ?_
          refine v_iload (pc := 71) dX0_takeWay_71 rfl ?_
          refine v_istore_n (pc := 73) dX0_takeWay_73 (by decide) ?_
          refine v_iinc (pc := 74) 1 dX0_takeWay_74 rfl (by decide) (by decide) ?_
          refine v_goto (pc := 77) 5 dX0_takeWay_77 (by decide) ?_
          exact v_sub (ih v1 x1 (v4 + 1) M6) rfl
theorem wCuts_takeWay (l : Launch) (G : zG) (v1 : Int32) (v2 : Int32) (M : zM) : zV eV l G zLX zRX 1 yX0_takeWay cX0_takeWay 6 none 0 [(0, .ref 49), (1, .int v1), (2, .int v2)] [] M (fCuts_takeWay v1 v2 M) := by
  rw [fCuts_takeWay]
  refine v_iload_n (pc := 0) dX0_takeWay_0 rfl ?_
  refine v_istore_n (pc := 1) dX0_takeWay_1 (by decide) ?_
  refine v_iconst (pc := 2) 0 dX0_takeWay_2 (by decide) ?_
  refine v_istore (pc := 3) dX0_takeWay_3 (by decide) ?_
  exact v_sub (wCuts_takeWay_5 l G FU v1 v2 0 M) rfl
theorem cCuts_takeWay (l : Launch) (G : zG) (v1 : Int32) (v2 : Int32) (M : zM) : zC eV l G zLX zRX 1 yX0_takeWay cX0_takeWay 6 none [.ref 49, .int v1, .int v2] M (fCuts_takeWay v1 v2 M) := zC.of (by decide) (Nat.le_of_ble_eq_true rfl) (v_sub (wCuts_takeWay l G v1 v2 M) rfl)
theorem dX0_separateWays_0 : decode cX0_separateWays 0 = .ok (.aload_n 0, 1) := by decide +kernel
theorem dX0_separateWays_1 : decode cX0_separateWays 1 = .ok (.getfield 21, 3) := by decide +kernel
theorem dX0_separateWays_4 : decode cX0_separateWays 4 = .ok (.getfield 64, 3) := by decide +kernel
theorem dX0_separateWays_7 : decode cX0_separateWays 7 = .ok (.iconst 0, 1) := by decide +kernel
theorem dX0_separateWays_8 : decode cX0_separateWays 8 = .ok (.aload_n 0, 1) := by decide +kernel
theorem dX0_separateWays_9 : decode cX0_separateWays 9 = .ok (.getfield 9, 3) := by decide +kernel
theorem dX0_separateWays_12 : decode cX0_separateWays 12 = .ok (.iconst 0, 1) := by decide +kernel
theorem dX0_separateWays_13 : decode cX0_separateWays 13 = .ok (.bipush 12, 2) := by decide +kernel
theorem dX0_separateWays_15 : decode cX0_separateWays 15 = .ok (.invokestatic 67, 3) := by decide +kernel
theorem dX0_separateWays_18 : decode cX0_separateWays 18 = .ok (.iconst 0, 1) := by decide +kernel
theorem dX0_separateWays_19 : decode cX0_separateWays 19 = .ok (.istore_n 3, 1) := by decide +kernel
theorem dX0_separateWays_20 : decode cX0_separateWays 20 = .ok (.iload_n 3, 1) := by decide +kernel
theorem dX0_separateWays_21 : decode cX0_separateWays 21 = .ok (.bipush 12, 2) := by decide +kernel
theorem dX0_separateWays_23 : decode cX0_separateWays 23 = .ok (.if_icmp .ge 26, 3) := by decide +kernel
theorem dX0_separateWays_26 : decode cX0_separateWays 26 = .ok (.aload_n 0, 1) := by decide +kernel
theorem dX0_separateWays_27 : decode cX0_separateWays 27 = .ok (.iload_n 1, 1) := by decide +kernel
theorem dX0_separateWays_28 : decode cX0_separateWays 28 = .ok (.iload_n 2, 1) := by decide +kernel
theorem dX0_separateWays_29 : decode cX0_separateWays 29 = .ok (.invokevirtual 73, 3) := by decide +kernel
theorem dX0_separateWays_32 : decode cX0_separateWays 32 = .ok (.ifCond .ne 5, 3) := by decide +kernel
theorem dX0_separateWays_35 : decode cX0_separateWays 35 = .ok (.iload_n 3, 1) := by decide +kernel
theorem dX0_separateWays_36 : decode cX0_separateWays 36 = .ok (.ireturn, 1) := by decide +kernel
theorem dX0_separateWays_37 : decode cX0_separateWays 37 = .ok (.aload_n 0, 1) := by decide +kernel
theorem dX0_separateWays_38 : decode cX0_separateWays 38 = .ok (.iload_n 1, 1) := by decide +kernel
theorem dX0_separateWays_39 : decode cX0_separateWays 39 = .ok (.iload_n 2, 1) := by decide +kernel
theorem dX0_separateWays_40 : decode cX0_separateWays 40 = .ok (.invokevirtual 77, 3) := by decide +kernel
theorem dX0_separateWays_43 : decode cX0_separateWays 43 = .ok (.iinc 3 1, 3) := by decide +kernel
theorem dX0_separateWays_46 : decode cX0_separateWays 46 = .ok (.goto (-26), 3) := by decide +kernel
theorem dX0_separateWays_49 : decode cX0_separateWays 49 = .ok (.bipush 12, 2) := by decide +kernel
theorem dX0_separateWays_51 : decode cX0_separateWays 51 = .ok (.ireturn, 1) := by decide +kernel
theorem wCuts_separateWays_20 (l : Launch) (G : zG) : ∀ (fuel : Nat) (v1 : Int32) (v2 : Int32) (v3 : Int32) (M : zM), zV eI l G zLX zRX 2 yX0_separateWays cX0_separateWays 4 (some .int) 20 [(0, .ref 49), (1, .int v1), (2, .int v2), (3, .int v3)] [] M (fCuts_separateWays_20 fuel v1 v2 v3 M) := by
  intro fuel
  induction fuel with
  | zero => intro v1 v2 v3 M; exact v_none
  | succ fuel ih =>
    intro v1 v2 v3 M
    rw [fCuts_separateWays_20]
    refine v_iload_n (pc := 20) dX0_separateWays_20 rfl ?_
    refine v_bipush (pc := 21) 12 dX0_separateWays_21 (by decide) ?_
    refine v_icmp_ge (pc := 23) 49 dX0_separateWays_23 (by decide) ?_ ?_
    · refine v_bipush (pc := 49) 12 dX0_separateWays_49 (by decide) ?_
      exact v_iret (pc := 51) dX0_separateWays_51
    · refine v_aload_n (pc := 26) dX0_separateWays_26 rfl ?_
      refine v_iload_n (pc := 27) dX0_separateWays_27 rfl ?_
      refine v_iload_n (pc := 28) dX0_separateWays_28 rfl ?_
      refine v_callV (pc := 29) (As := [.int v1, .int v2]) (cCuts_reach l G v1 v2 M) zc_X0_reach zk0 rfl lx_49 tw_828 (by decide) (Nat.le_of_ble_eq_true rfl) dX0_separateWays_29 (fun r2 M1 => ?_)
      refine v_if_ne (pc := 32) 37 dX0_separateWays_32 (by decide) ?_ ?_
      · refine v_aload_n (pc := 37) dX0_separateWays_37 rfl ?_
        refine v_iload_n (pc := 38) dX0_separateWays_38 rfl ?_
        refine v_iload_n (pc := 39) dX0_separateWays_39 rfl ?_
        refine v_callV (pc := 40) (As := [.int v1, .int v2]) (cCuts_takeWay l G v1 v2 M1) zc_X0_takeWay zk0 rfl lx_49 tw_832 (by decide) (Nat.le_of_ble_eq_true rfl) dX0_separateWays_40 (fun _ M3 => ?_)
        skip
        refine v_iinc (pc := 43) 1 dX0_separateWays_43 rfl (by decide) (by decide) ?_
        refine v_goto (pc := 46) 20 dX0_separateWays_46 (by decide) ?_
        exact v_sub (ih v1 v2 (v3 + 1) M3) rfl
      · refine v_iload_n (pc := 35) dX0_separateWays_35 rfl ?_
        exact v_iret (pc := 36) dX0_separateWays_36
theorem wCuts_separateWays (l : Launch) (G : zG) (v1 : Int32) (v2 : Int32) (M : zM) : zV eI l G zLX zRX 2 yX0_separateWays cX0_separateWays 4 (some .int) 0 [(0, .ref 49), (1, .int v1), (2, .int v2)] [] M (fCuts_separateWays v1 v2 M) := by
  rw [fCuts_separateWays]
  refine v_aload_n (pc := 0) dX0_separateWays_0 rfl ?_
  refine v_getR (pc := 1) (q := 0) zk0 lx_49 rfl rx_49_0 tw_343 dX0_separateWays_1 ?_
  refine v_getR (pc := 4) (q := 5) zk3 lx_1 rfl rx_1_5 tw_138 dX0_separateWays_4 ?_
  refine v_iconst (pc := 7) 0 dX0_separateWays_7 (by decide) ?_
  refine v_aload_n (pc := 8) dX0_separateWays_8 rfl ?_
  refine v_getR (pc := 9) (q := 2) zk0 lx_49 rfl rx_49_2 tw_345 dX0_separateWays_9 ?_
  refine v_iconst (pc := 12) 0 dX0_separateWays_12 (by decide) ?_
  refine v_bipush (pc := 13) 12 dX0_separateWays_13 (by decide) ?_
  refine v_acopy (pc := 15) lx_4 lx_50 tw_825 (by decide) (Nat.le_of_ble_eq_true rfl) dX0_separateWays_15 (fun M1 => ?_)
  refine v_iconst (pc := 18) 0 dX0_separateWays_18 (by decide) ?_
  refine v_istore_n (pc := 19) dX0_separateWays_19 (by decide) ?_
  exact v_sub (wCuts_separateWays_20 l G FU v1 v2 0 M1) rfl
theorem cCuts_separateWays (l : Launch) (G : zG) (v1 : Int32) (v2 : Int32) (M : zM) : zC eI l G zLX zRX 2 yX0_separateWays cX0_separateWays 4 (some .int) [.ref 49, .int v1, .int v2] M (fCuts_separateWays v1 v2 M) := zC.of (by decide) (Nat.le_of_ble_eq_true rfl) (v_sub (wCuts_separateWays l G v1 v2 M) rfl)
