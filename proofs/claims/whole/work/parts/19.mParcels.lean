theorem dX5_step_0 : decode cX5_step 0 = .ok (.aload_n 0, 1) := by decide +kernel
theorem dX5_step_1 : decode cX5_step 1 = .ok (.getfield 31, 3) := by decide +kernel
theorem dX5_step_4 : decode cX5_step 4 = .ok (.invokevirtual 39, 3) := by decide +kernel
theorem dX5_step_7 : decode cX5_step 7 = .ok (.astore_n 3, 1) := by decide +kernel
theorem dX5_step_8 : decode cX5_step 8 = .ok (.iload_n 1, 1) := by decide +kernel
theorem dX5_step_9 : decode cX5_step 9 = .ok (.iload_n 2, 1) := by decide +kernel
theorem dX5_step_10 : decode cX5_step 10 = .ok (.if_icmp .ne 5, 3) := by decide +kernel
theorem dX5_step_13 : decode cX5_step 13 = .ok (.iload_n 2, 1) := by decide +kernel
theorem dX5_step_14 : decode cX5_step 14 = .ok (.ireturn, 1) := by decide +kernel
theorem dX5_step_15 : decode cX5_step 15 = .ok (.aload_n 3, 1) := by decide +kernel
theorem dX5_step_16 : decode cX5_step 16 = .ok (.getfield 45, 3) := by decide +kernel
theorem dX5_step_19 : decode cX5_step 19 = .ok (.iload_n 1, 1) := by decide +kernel
theorem dX5_step_20 : decode cX5_step 20 = .ok (.iaload, 1) := by decide +kernel
theorem dX5_step_21 : decode cX5_step 21 = .ok (.aload_n 3, 1) := by decide +kernel
theorem dX5_step_22 : decode cX5_step 22 = .ok (.getfield 45, 3) := by decide +kernel
theorem dX5_step_25 : decode cX5_step 25 = .ok (.iload_n 2, 1) := by decide +kernel
theorem dX5_step_26 : decode cX5_step 26 = .ok (.iaload, 1) := by decide +kernel
theorem dX5_step_27 : decode cX5_step 27 = .ok (.if_icmp .eq 5, 3) := by decide +kernel
theorem dX5_step_30 : decode cX5_step 30 = .ok (.iconst (-1), 1) := by decide +kernel
theorem dX5_step_31 : decode cX5_step 31 = .ok (.ireturn, 1) := by decide +kernel
theorem dX5_step_32 : decode cX5_step 32 = .ok (.aload_n 3, 1) := by decide +kernel
theorem dX5_step_33 : decode cX5_step 33 = .ok (.iload_n 1, 1) := by decide +kernel
theorem dX5_step_34 : decode cX5_step 34 = .ok (.iload_n 2, 1) := by decide +kernel
theorem dX5_step_35 : decode cX5_step 35 = .ok (.invokevirtual 49, 3) := by decide +kernel
theorem dX5_step_38 : decode cX5_step 38 = .ok (.ifCond .ne 10, 3) := by decide +kernel
theorem dX5_step_41 : decode cX5_step 41 = .ok (.aload_n 3, 1) := by decide +kernel
theorem dX5_step_42 : decode cX5_step 42 = .ok (.getfield 53, 3) := by decide +kernel
theorem dX5_step_45 : decode cX5_step 45 = .ok (.iload_n 1, 1) := by decide +kernel
theorem dX5_step_46 : decode cX5_step 46 = .ok (.iaload, 1) := by decide +kernel
theorem dX5_step_47 : decode cX5_step 47 = .ok (.ireturn, 1) := by decide +kernel
theorem dX5_step_48 : decode cX5_step 48 = .ok (.iconst 0, 1) := by decide +kernel
theorem dX5_step_49 : decode cX5_step 49 = .ok (.istore 4, 2) := by decide +kernel
theorem dX5_step_51 : decode cX5_step 51 = .ok (.iload 4, 2) := by decide +kernel
theorem dX5_step_53 : decode cX5_step 53 = .ok (.aload_n 0, 1) := by decide +kernel
theorem dX5_step_54 : decode cX5_step 54 = .ok (.getfield 27, 3) := by decide +kernel
theorem dX5_step_57 : decode cX5_step 57 = .ok (.getfield 56, 3) := by decide +kernel
theorem dX5_step_60 : decode cX5_step 60 = .ok (.if_icmp .ge 33, 3) := by decide +kernel
theorem dX5_step_63 : decode cX5_step 63 = .ok (.aload_n 3, 1) := by decide +kernel
theorem dX5_step_64 : decode cX5_step 64 = .ok (.getfield 53, 3) := by decide +kernel
theorem dX5_step_67 : decode cX5_step 67 = .ok (.iload 4, 2) := by decide +kernel
theorem dX5_step_69 : decode cX5_step 69 = .ok (.iaload, 1) := by decide +kernel
theorem dX5_step_70 : decode cX5_step 70 = .ok (.iload_n 1, 1) := by decide +kernel
theorem dX5_step_71 : decode cX5_step 71 = .ok (.if_icmp .ne 16, 3) := by decide +kernel
theorem dX5_step_74 : decode cX5_step 74 = .ok (.aload_n 3, 1) := by decide +kernel
theorem dX5_step_75 : decode cX5_step 75 = .ok (.iload 4, 2) := by decide +kernel
theorem dX5_step_77 : decode cX5_step 77 = .ok (.iload_n 2, 1) := by decide +kernel
theorem dX5_step_78 : decode cX5_step 78 = .ok (.invokevirtual 49, 3) := by decide +kernel
theorem dX5_step_81 : decode cX5_step 81 = .ok (.ifCond .eq 6, 3) := by decide +kernel
theorem dX5_step_84 : decode cX5_step 84 = .ok (.iload 4, 2) := by decide +kernel
theorem dX5_step_86 : decode cX5_step 86 = .ok (.ireturn, 1) := by decide +kernel
theorem dX5_step_87 : decode cX5_step 87 = .ok (.iinc 4 1, 3) := by decide +kernel
theorem dX5_step_90 : decode cX5_step 90 = .ok (.goto (-39), 3) := by decide +kernel
theorem dX5_step_93 : decode cX5_step 93 = .ok (.iconst (-1), 1) := by decide +kernel
theorem dX5_step_94 : decode cX5_step 94 = .ok (.ireturn, 1) := by decide +kernel
theorem wParcels_step_51 (l : Launch) (G : zG) : ∀ (fuel : Nat) (v1 : Int32) (v2 : Int32) (v4 : Int32) (M : zM), zV eI l G zLX zRX 4 yX5_step cX5_step 5 (some .int) 51 [(0, .ref 48), (1, .int v1), (2, .int v2), (3, .ref 5), (4, .int v4)] [] M (fParcels_step_51 fuel v1 v2 v4 M) := by
  intro fuel
  induction fuel with
  | zero => intro v1 v2 v4 M; exact v_none
  | succ fuel ih =>
    intro v1 v2 v4 M
    rw [fParcels_step_51]
    refine v_iload (pc := 51) dX5_step_51 rfl ?_
    refine v_aload_n (pc := 53) dX5_step_53 rfl ?_
    refine v_getR (pc := 54) (q := 0) zk5 lx_48 rfl rx_48_0 tw_308 dX5_step_54 ?_
    refine v_getI (pc := 57) (q := 0) zk3 lx_1 rfl tw_117 dX5_step_57 ?_
    refine v_icmp_ge (pc := 60) 93 dX5_step_60 (by decide) ?_ ?_
    · refine v_iconst (pc := 93) (-1) dX5_step_93 (by decide) ?_
      exact v_iret (pc := 94) dX5_step_94
    · refine v_aload_n (pc := 63) dX5_step_63 rfl ?_
      refine v_getR (pc := 64) (q := 3) zk8 lx_5 rfl rx_5_3 tw_166 dX5_step_64 ?_
      refine v_iload (pc := 67) dX5_step_67 rfl ?_
      refine v_iald (pc := 69) lx_6 dX5_step_69 (fun x1 => ?_)
      refine v_iload_n (pc := 70) dX5_step_70 rfl ?_
      refine v_icmp_ne (pc := 71) 87 dX5_step_71 (by decide) ?_ ?_
      · refine v_iinc (pc := 87) 1 dX5_step_87 rfl (by decide) (by decide) ?_
        refine v_goto (pc := 90) 51 dX5_step_90 (by decide) ?_
        exact v_sub (ih v1 v2 (v4 + 1) M) rfl
      · refine v_aload_n (pc := 74) dX5_step_74 rfl ?_
        refine v_iload (pc := 75) dX5_step_75 rfl ?_
        refine v_iload_n (pc := 77) dX5_step_77 rfl ?_
        refine v_callV (pc := 78) (As := [.int v4, .int v2]) (cTree_isAbove l G v4 v2 M) zc_X8_isAbove zk8 rfl lx_5 tw_769 (by decide) (Nat.le_of_ble_eq_true rfl) dX5_step_78 (fun r3 M2 => ?_)
        refine v_if_eq (pc := 81) 87 dX5_step_81 (by decide) ?_ ?_
        · refine v_iinc (pc := 87) 1 dX5_step_87 rfl (by decide) (by decide) ?_
          refine v_goto (pc := 90) 51 dX5_step_90 (by decide) ?_
          exact v_sub (ih v1 v2 (v4 + 1) M2) rfl
        · refine v_iload (pc := 84) dX5_step_84 rfl ?_
          exact v_iret (pc := 86) dX5_step_86
theorem wParcels_step (l : Launch) (G : zG) (v1 : Int32) (v2 : Int32) (M : zM) : zV eI l G zLX zRX 4 yX5_step cX5_step 5 (some .int) 0 [(0, .ref 48), (1, .int v1), (2, .int v2)] [] M (fParcels_step v1 v2 M) := by
  rw [fParcels_step]
  refine v_aload_n (pc := 0) dX5_step_0 rfl ?_
  refine v_getR (pc := 1) (q := 1) zk5 lx_48 rfl rx_48_1 tw_309 dX5_step_1 ?_
  refine v_callV (pc := 4) (As := []) (cTree_fresh l G  M) zc_X8_fresh zk8 rfl lx_5 tw_768 (by decide) (Nat.le_of_ble_eq_true rfl) dX5_step_4 (fun r2 M1 => ?_)
  refine v_ifP (fun hgr2 => ?_)
  subst hgr2
  refine v_astore_n (pc := 7) dX5_step_7 (by decide) ?_
  refine v_iload_n (pc := 8) dX5_step_8 rfl ?_
  refine v_iload_n (pc := 9) dX5_step_9 rfl ?_
  refine v_icmp_ne (pc := 10) 15 dX5_step_10 (by decide) ?_ ?_
  · refine v_aload_n (pc := 15) dX5_step_15 rfl ?_
    refine v_getR (pc := 16) (q := 4) zk8 lx_5 rfl rx_5_4 tw_170 dX5_step_16 ?_
    refine v_iload_n (pc := 19) dX5_step_19 rfl ?_
    refine v_iald (pc := 20) lx_7 dX5_step_20 (fun x3 => ?_)
    refine v_aload_n (pc := 21) dX5_step_21 rfl ?_
    refine v_getR (pc := 22) (q := 4) zk8 lx_5 rfl rx_5_4 tw_170 dX5_step_22 ?_
    refine v_iload_n (pc := 25) dX5_step_25 rfl ?_
    refine v_iald (pc := 26) lx_7 dX5_step_26 (fun x4 => ?_)
    refine v_icmp_eq (pc := 27) 32 dX5_step_27 (by decide) ?_ ?_
    · refine v_aload_n (pc := 32) dX5_step_32 rfl ?_
      refine v_iload_n (pc := 33) dX5_step_33 rfl ?_
      refine v_iload_n (pc := 34) dX5_step_34 rfl ?_
      refine v_callV (pc := 35) (As := [.int v1, .int v2]) (cTree_isAbove l G v1 v2 M1) zc_X8_isAbove zk8 rfl lx_5 tw_769 (by decide) (Nat.le_of_ble_eq_true rfl) dX5_step_35 (fun r6 M5 => ?_)
      refine v_if_ne (pc := 38) 48 dX5_step_38 (by decide) ?_ ?_
      · refine v_iconst (pc := 48) 0 dX5_step_48 (by decide) ?_
        refine v_istore (pc := 49) dX5_step_49 (by decide) ?_
        exact v_sub (wParcels_step_51 l G FU v1 v2 0 M5) rfl
      · refine v_aload_n (pc := 41) dX5_step_41 rfl ?_
        refine v_getR (pc := 42) (q := 3) zk8 lx_5 rfl rx_5_3 tw_166 dX5_step_42 ?_
        refine v_iload_n (pc := 45) dX5_step_45 rfl ?_
        refine v_iald (pc := 46) lx_6 dX5_step_46 (fun x7 => ?_)
        exact v_iret (pc := 47) dX5_step_47
    · refine v_iconst (pc := 30) (-1) dX5_step_30 (by decide) ?_
      exact v_iret (pc := 31) dX5_step_31
  · refine v_iload_n (pc := 13) dX5_step_13 rfl ?_
    exact v_iret (pc := 14) dX5_step_14
theorem cParcels_step (l : Launch) (G : zG) (v1 : Int32) (v2 : Int32) (M : zM) : zC eI l G zLX zRX 4 yX5_step cX5_step 5 (some .int) [.ref 48, .int v1, .int v2] M (fParcels_step v1 v2 M) := zC.of (by decide) (Nat.le_of_ble_eq_true rfl) (v_sub (wParcels_step l G v1 v2 M) rfl)
theorem dX5_length_0 : decode cX5_length 0 = .ok (.aload_n 0, 1) := by decide +kernel
theorem dX5_length_1 : decode cX5_length 1 = .ok (.getfield 31, 3) := by decide +kernel
theorem dX5_length_4 : decode cX5_length 4 = .ok (.invokevirtual 39, 3) := by decide +kernel
theorem dX5_length_7 : decode cX5_length 7 = .ok (.astore_n 3, 1) := by decide +kernel
theorem dX5_length_8 : decode cX5_length 8 = .ok (.aload_n 3, 1) := by decide +kernel
theorem dX5_length_9 : decode cX5_length 9 = .ok (.getfield 45, 3) := by decide +kernel
theorem dX5_length_12 : decode cX5_length 12 = .ok (.iload_n 1, 1) := by decide +kernel
theorem dX5_length_13 : decode cX5_length 13 = .ok (.iaload, 1) := by decide +kernel
theorem dX5_length_14 : decode cX5_length 14 = .ok (.aload_n 3, 1) := by decide +kernel
theorem dX5_length_15 : decode cX5_length 15 = .ok (.getfield 45, 3) := by decide +kernel
theorem dX5_length_18 : decode cX5_length 18 = .ok (.iload_n 2, 1) := by decide +kernel
theorem dX5_length_19 : decode cX5_length 19 = .ok (.iaload, 1) := by decide +kernel
theorem dX5_length_20 : decode cX5_length 20 = .ok (.if_icmp .eq 5, 3) := by decide +kernel
theorem dX5_length_23 : decode cX5_length 23 = .ok (.iconst (-1), 1) := by decide +kernel
theorem dX5_length_24 : decode cX5_length 24 = .ok (.ireturn, 1) := by decide +kernel
theorem dX5_length_25 : decode cX5_length 25 = .ok (.aload_n 3, 1) := by decide +kernel
theorem dX5_length_26 : decode cX5_length 26 = .ok (.getfield 61, 3) := by decide +kernel
theorem dX5_length_29 : decode cX5_length 29 = .ok (.iload_n 1, 1) := by decide +kernel
theorem dX5_length_30 : decode cX5_length 30 = .ok (.iaload, 1) := by decide +kernel
theorem dX5_length_31 : decode cX5_length 31 = .ok (.aload_n 3, 1) := by decide +kernel
theorem dX5_length_32 : decode cX5_length 32 = .ok (.getfield 61, 3) := by decide +kernel
theorem dX5_length_35 : decode cX5_length 35 = .ok (.iload_n 2, 1) := by decide +kernel
theorem dX5_length_36 : decode cX5_length 36 = .ok (.iaload, 1) := by decide +kernel
theorem dX5_length_37 : decode cX5_length 37 = .ok (.ixor, 1) := by decide +kernel
theorem dX5_length_38 : decode cX5_length 38 = .ok (.invokestatic 64, 3) := by decide +kernel
theorem dX5_length_41 : decode cX5_length 41 = .ok (.ireturn, 1) := by decide +kernel
theorem wParcels_length (l : Launch) (G : zG) (v1 : Int32) (v2 : Int32) (M : zM) : zV eI l G zLX zRX 4 yX5_length cX5_length 4 (some .int) 0 [(0, .ref 48), (1, .int v1), (2, .int v2)] [] M (fParcels_length v1 v2 M) := by
  rw [fParcels_length]
  refine v_aload_n (pc := 0) dX5_length_0 rfl ?_
  refine v_getR (pc := 1) (q := 1) zk5 lx_48 rfl rx_48_1 tw_309 dX5_length_1 ?_
  refine v_callV (pc := 4) (As := []) (cTree_fresh l G  M) zc_X8_fresh zk8 rfl lx_5 tw_768 (by decide) (Nat.le_of_ble_eq_true rfl) dX5_length_4 (fun r2 M1 => ?_)
  refine v_ifP (fun hgr2 => ?_)
  subst hgr2
  refine v_astore_n (pc := 7) dX5_length_7 (by decide) ?_
  refine v_aload_n (pc := 8) dX5_length_8 rfl ?_
  refine v_getR (pc := 9) (q := 4) zk8 lx_5 rfl rx_5_4 tw_170 dX5_length_9 ?_
  refine v_iload_n (pc := 12) dX5_length_12 rfl ?_
  refine v_iald (pc := 13) lx_7 dX5_length_13 (fun x3 => ?_)
  refine v_aload_n (pc := 14) dX5_length_14 rfl ?_
  refine v_getR (pc := 15) (q := 4) zk8 lx_5 rfl rx_5_4 tw_170 dX5_length_15 ?_
  refine v_iload_n (pc := 18) dX5_length_18 rfl ?_
  refine v_iald (pc := 19) lx_7 dX5_length_19 (fun x4 => ?_)
  refine v_icmp_eq (pc := 20) 25 dX5_length_20 (by decide) ?_ ?_
  · refine v_aload_n (pc := 25) dX5_length_25 rfl ?_
    refine v_getR (pc := 26) (q := 5) zk8 lx_5 rfl rx_5_5 tw_174 dX5_length_26 ?_
    refine v_iload_n (pc := 29) dX5_length_29 rfl ?_
    refine v_iald (pc := 30) lx_8 dX5_length_30 (fun x5 => ?_)
    refine v_aload_n (pc := 31) dX5_length_31 rfl ?_
    refine v_getR (pc := 32) (q := 5) zk8 lx_5 rfl rx_5_5 tw_174 dX5_length_32 ?_
    refine v_iload_n (pc := 35) dX5_length_35 rfl ?_
    refine v_iald (pc := 36) lx_8 dX5_length_36 (fun x6 => ?_)
    refine v_ixor (pc := 37) dX5_length_37 ?_
    refine v_callS (pc := 38) (As := [.int (x5 ^^^ x6)]) (cJ6_bitCount l G (x5 ^^^ x6) M1) zc_J6_bitCount_0f7a4 tw_781 (by decide) (Nat.le_of_ble_eq_true rfl) dX5_length_38 (fun r8 M7 => ?_)
    exact v_iret (pc := 41) dX5_length_41
  · refine v_iconst (pc := 23) (-1) dX5_length_23 (by decide) ?_
    exact v_iret (pc := 24) dX5_length_24
theorem cParcels_length (l : Launch) (G : zG) (v1 : Int32) (v2 : Int32) (M : zM) : zC eI l G zLX zRX 4 yX5_length cX5_length 4 (some .int) [.ref 48, .int v1, .int v2] M (fParcels_length v1 v2 M) := zC.of (by decide) (Nat.le_of_ble_eq_true rfl) (v_sub (wParcels_length l G v1 v2 M) rfl)
theorem dX5_offer_0 : decode cX5_offer 0 = .ok (.iload_n 3, 1) := by decide +kernel
theorem dX5_offer_1 : decode cX5_offer 1 = .ok (.aload_n 0, 1) := by decide +kernel
theorem dX5_offer_2 : decode cX5_offer 2 = .ok (.getfield 15, 3) := by decide +kernel
theorem dX5_offer_5 : decode cX5_offer 5 = .ok (.imul, 1) := by decide +kernel
theorem dX5_offer_6 : decode cX5_offer 6 = .ok (.aload_n 0, 1) := by decide +kernel
theorem dX5_offer_7 : decode cX5_offer 7 = .ok (.getfield 9, 3) := by decide +kernel
theorem dX5_offer_10 : decode cX5_offer 10 = .ok (.iload 4, 2) := by decide +kernel
theorem dX5_offer_12 : decode cX5_offer 12 = .ok (.imul, 1) := by decide +kernel
theorem dX5_offer_13 : decode cX5_offer 13 = .ok (.if_icmp .le 24, 3) := by decide +kernel
theorem dX5_offer_16 : decode cX5_offer 16 = .ok (.aload_n 0, 1) := by decide +kernel
theorem dX5_offer_17 : decode cX5_offer 17 = .ok (.iload_n 3, 1) := by decide +kernel
theorem dX5_offer_18 : decode cX5_offer 18 = .ok (.putfield 9, 3) := by decide +kernel
theorem dX5_offer_21 : decode cX5_offer 21 = .ok (.aload_n 0, 1) := by decide +kernel
theorem dX5_offer_22 : decode cX5_offer 22 = .ok (.iload 4, 2) := by decide +kernel
theorem dX5_offer_24 : decode cX5_offer 24 = .ok (.putfield 15, 3) := by decide +kernel
theorem dX5_offer_27 : decode cX5_offer 27 = .ok (.aload_n 0, 1) := by decide +kernel
theorem dX5_offer_28 : decode cX5_offer 28 = .ok (.iload_n 1, 1) := by decide +kernel
theorem dX5_offer_29 : decode cX5_offer 29 = .ok (.putfield 18, 3) := by decide +kernel
theorem dX5_offer_32 : decode cX5_offer 32 = .ok (.aload_n 0, 1) := by decide +kernel
theorem dX5_offer_33 : decode cX5_offer 33 = .ok (.iload_n 2, 1) := by decide +kernel
theorem dX5_offer_34 : decode cX5_offer 34 = .ok (.putfield 21, 3) := by decide +kernel
theorem dX5_offer_37 : decode cX5_offer 37 = .ok (.return_, 1) := by decide +kernel
theorem wParcels_offer (l : Launch) (G : zG) (v1 : Int32) (v2 : Int32) (v3 : Int32) (v4 : Int32) (M : zM) : zV eV l G zLX zRX 1 yX5_offer cX5_offer 5 none 0 [(0, .ref 48), (1, .int v1), (2, .int v2), (3, .int v3), (4, .int v4)] [] M (fParcels_offer v1 v2 v3 v4 M) := by
  rw [fParcels_offer]
  refine v_iload_n (pc := 0) dX5_offer_0 rfl ?_
  refine v_aload_n (pc := 1) dX5_offer_1 rfl ?_
  refine v_getI (pc := 2) (q := 4) zk5 lx_48 rfl tw_313 dX5_offer_2 ?_
  refine v_imul (pc := 5) dX5_offer_5 ?_
  refine v_aload_n (pc := 6) dX5_offer_6 rfl ?_
  refine v_getI (pc := 7) (q := 3) zk5 lx_48 rfl tw_311 dX5_offer_7 ?_
  refine v_iload (pc := 10) dX5_offer_10 rfl ?_
  refine v_imul (pc := 12) dX5_offer_12 ?_
  refine v_icmp_le (pc := 13) 37 dX5_offer_13 (by decide) ?_ ?_
  · exact v_vret (pc := 37) dX5_offer_37
  · refine v_aload_n (pc := 16) dX5_offer_16 rfl ?_
    refine v_iload_n (pc := 17) dX5_offer_17 rfl ?_
    refine v_putI (pc := 18) (q := 3) zk5 lx_48 rfl tw_311 rfl rfl rfl dX5_offer_18 (fun M1 => ?_)
    refine v_aload_n (pc := 21) dX5_offer_21 rfl ?_
    refine v_iload (pc := 22) dX5_offer_22 rfl ?_
    refine v_putI (pc := 24) (q := 4) zk5 lx_48 rfl tw_313 rfl rfl rfl dX5_offer_24 (fun M2 => ?_)
    refine v_aload_n (pc := 27) dX5_offer_27 rfl ?_
    refine v_iload_n (pc := 28) dX5_offer_28 rfl ?_
    refine v_putI (pc := 29) (q := 5) zk5 lx_48 rfl tw_315 rfl rfl rfl dX5_offer_29 (fun M3 => ?_)
    refine v_aload_n (pc := 32) dX5_offer_32 rfl ?_
    refine v_iload_n (pc := 33) dX5_offer_33 rfl ?_
    refine v_putI (pc := 34) (q := 6) zk5 lx_48 rfl tw_317 rfl rfl rfl dX5_offer_34 (fun M4 => ?_)
    exact v_vret (pc := 37) dX5_offer_37
theorem cParcels_offer (l : Launch) (G : zG) (v1 : Int32) (v2 : Int32) (v3 : Int32) (v4 : Int32) (M : zM) : zC eV l G zLX zRX 1 yX5_offer cX5_offer 5 none [.ref 48, .int v1, .int v2, .int v3, .int v4] M (fParcels_offer v1 v2 v3 v4 M) := zC.of (by decide) (Nat.le_of_ble_eq_true rfl) (v_sub (wParcels_offer l G v1 v2 v3 v4 M) rfl)
theorem dX5_findStretch_0 : decode cX5_findStretch 0 = .ok (.aload_n 0, 1) := by decide +kernel
theorem dX5_findStretch_1 : decode cX5_findStretch 1 = .ok (.iconst 0, 1) := by decide +kernel
theorem dX5_findStretch_2 : decode cX5_findStretch 2 = .ok (.putfield 9, 3) := by decide +kernel
theorem dX5_findStretch_5 : decode cX5_findStretch 5 = .ok (.aload_n 0, 1) := by decide +kernel
theorem dX5_findStretch_6 : decode cX5_findStretch 6 = .ok (.iconst 1, 1) := by decide +kernel
theorem dX5_findStretch_7 : decode cX5_findStretch 7 = .ok (.putfield 15, 3) := by decide +kernel
theorem dX5_findStretch_10 : decode cX5_findStretch 10 = .ok (.aload_n 0, 1) := by decide +kernel
theorem dX5_findStretch_11 : decode cX5_findStretch 11 = .ok (.iconst (-1), 1) := by decide +kernel
theorem dX5_findStretch_12 : decode cX5_findStretch 12 = .ok (.putfield 18, 3) := by decide +kernel
theorem dX5_findStretch_15 : decode cX5_findStretch 15 = .ok (.aload_n 0, 1) := by decide +kernel
theorem dX5_findStretch_16 : decode cX5_findStretch 16 = .ok (.iconst (-1), 1) := by decide +kernel
theorem dX5_findStretch_17 : decode cX5_findStretch 17 = .ok (.putfield 21, 3) := by decide +kernel
theorem dX5_findStretch_20 : decode cX5_findStretch 20 = .ok (.iconst 0, 1) := by decide +kernel
theorem dX5_findStretch_21 : decode cX5_findStretch 21 = .ok (.istore_n 2, 1) := by decide +kernel
theorem dX5_findStretch_22 : decode cX5_findStretch 22 = .ok (.iload_n 2, 1) := by decide +kernel
theorem dX5_findStretch_23 : decode cX5_findStretch 23 = .ok (.aload_n 0, 1) := by decide +kernel
theorem dX5_findStretch_24 : decode cX5_findStretch 24 = .ok (.getfield 27, 3) := by decide +kernel
theorem dX5_findStretch_27 : decode cX5_findStretch 27 = .ok (.getfield 56, 3) := by decide +kernel
theorem dX5_findStretch_30 : decode cX5_findStretch 30 = .ok (.if_icmp .ge 61, 3) := by decide +kernel
theorem dX5_findStretch_33 : decode cX5_findStretch 33 = .ok (.iconst 0, 1) := by decide +kernel
theorem dX5_findStretch_34 : decode cX5_findStretch 34 = .ok (.istore_n 3, 1) := by decide +kernel
theorem dX5_findStretch_35 : decode cX5_findStretch 35 = .ok (.iload_n 3, 1) := by decide +kernel
theorem dX5_findStretch_36 : decode cX5_findStretch 36 = .ok (.aload_n 0, 1) := by decide +kernel
theorem dX5_findStretch_37 : decode cX5_findStretch 37 = .ok (.getfield 27, 3) := by decide +kernel
theorem dX5_findStretch_40 : decode cX5_findStretch 40 = .ok (.getfield 56, 3) := by decide +kernel
theorem dX5_findStretch_43 : decode cX5_findStretch 43 = .ok (.if_icmp .ge 42, 3) := by decide +kernel
theorem dX5_findStretch_46 : decode cX5_findStretch 46 = .ok (.aload_n 0, 1) := by decide +kernel
theorem dX5_findStretch_47 : decode cX5_findStretch 47 = .ok (.iload_n 2, 1) := by decide +kernel
theorem dX5_findStretch_48 : decode cX5_findStretch 48 = .ok (.iload_n 3, 1) := by decide +kernel
theorem dX5_findStretch_49 : decode cX5_findStretch 49 = .ok (.invokevirtual 86, 3) := by decide +kernel
theorem dX5_findStretch_52 : decode cX5_findStretch 52 = .ok (.istore 4, 2) := by decide +kernel
theorem dX5_findStretch_54 : decode cX5_findStretch 54 = .ok (.iload_n 2, 1) := by decide +kernel
theorem dX5_findStretch_55 : decode cX5_findStretch 55 = .ok (.iload_n 3, 1) := by decide +kernel
theorem dX5_findStretch_56 : decode cX5_findStretch 56 = .ok (.if_icmp .eq 23, 3) := by decide +kernel
theorem dX5_findStretch_59 : decode cX5_findStretch 59 = .ok (.iload 4, 2) := by decide +kernel
theorem dX5_findStretch_61 : decode cX5_findStretch 61 = .ok (.iconst (-1), 1) := by decide +kernel
theorem dX5_findStretch_62 : decode cX5_findStretch 62 = .ok (.if_icmp .eq 17, 3) := by decide +kernel
theorem dX5_findStretch_65 : decode cX5_findStretch 65 = .ok (.aload_n 0, 1) := by decide +kernel
theorem dX5_findStretch_66 : decode cX5_findStretch 66 = .ok (.iload_n 2, 1) := by decide +kernel
theorem dX5_findStretch_67 : decode cX5_findStretch 67 = .ok (.iload_n 3, 1) := by decide +kernel
theorem dX5_findStretch_68 : decode cX5_findStretch 68 = .ok (.iload 4, 2) := by decide +kernel
theorem dX5_findStretch_70 : decode cX5_findStretch 70 = .ok (.aload_n 1, 1) := by decide +kernel
theorem dX5_findStretch_71 : decode cX5_findStretch 71 = .ok (.iload_n 2, 1) := by decide +kernel
theorem dX5_findStretch_72 : decode cX5_findStretch 72 = .ok (.iload_n 3, 1) := by decide +kernel
theorem dX5_findStretch_73 : decode cX5_findStretch 73 = .ok (.invokevirtual 90, 3) := by decide +kernel
theorem dX5_findStretch_76 : decode cX5_findStretch 76 = .ok (.invokevirtual 95, 3) := by decide +kernel
theorem dX5_findStretch_79 : decode cX5_findStretch 79 = .ok (.iinc 3 1, 3) := by decide +kernel
theorem dX5_findStretch_82 : decode cX5_findStretch 82 = .ok (.goto (-47), 3) := by decide +kernel
theorem dX5_findStretch_85 : decode cX5_findStretch 85 = .ok (.iinc 2 1, 3) := by decide +kernel
theorem dX5_findStretch_88 : decode cX5_findStretch 88 = .ok (.goto (-66), 3) := by decide +kernel
theorem dX5_findStretch_91 : decode cX5_findStretch 91 = .ok (.return_, 1) := by decide +kernel
theorem wParcels_findStretch_35 (l : Launch) (G : zG) (k22 : Nat → Int32 → zM → Option (Unit × zM)) (hk22 : ∀ (c1 : Nat) (hc1 : zN c1) (v2 : Int32) (M : zM), zV eV l G zLX zRX 5 yX5_findStretch cX5_findStretch 5 none 22 [(0, .ref 48), (1, .ref c1), (2, .int v2)] [] M (k22 c1 v2 M)) : ∀ (fuel : Nat) (c1 : Nat) (hc1 : zN c1) (v2 : Int32) (v3 : Int32) (M : zM), zV eV l G zLX zRX 5 yX5_findStretch cX5_findStretch 5 none 35 [(0, .ref 48), (1, .ref c1), (2, .int v2), (3, .int v3)] [] M (fParcels_findStretch_35 k22 fuel c1 v2 v3 M) := by
  intro fuel
  induction fuel with
  | zero => intro c1 hc1 v2 v3 M; exact v_none
  | succ fuel ih =>
    intro c1 hc1 v2 v3 M
    rw [fParcels_findStretch_35]
    refine v_iload_n (pc := 35) dX5_findStretch_35 rfl ?_
    refine v_aload_n (pc := 36) dX5_findStretch_36 rfl ?_
    refine v_getR (pc := 37) (q := 0) zk5 lx_48 rfl rx_48_0 tw_308 dX5_findStretch_37 ?_
    refine v_getI (pc := 40) (q := 0) zk3 lx_1 rfl tw_117 dX5_findStretch_40 ?_
    refine v_icmp_ge (pc := 43) 85 dX5_findStretch_43 (by decide) ?_ ?_
    · refine v_iinc (pc := 85) 1 dX5_findStretch_85 rfl (by decide) (by decide) ?_
      refine v_goto (pc := 88) 22 dX5_findStretch_88 (by decide) ?_
      exact v_sub (hk22 c1 hc1 (v2 + 1) M) rfl
    · refine v_aload_n (pc := 46) dX5_findStretch_46 rfl ?_
      refine v_iload_n (pc := 47) dX5_findStretch_47 rfl ?_
      refine v_iload_n (pc := 48) dX5_findStretch_48 rfl ?_
      refine v_callV (pc := 49) (As := [.int v2, .int v3]) (cParcels_length l G v2 v3 M) zc_X5_length zk5 rfl lx_48 tw_795 (by decide) (Nat.le_of_ble_eq_true rfl) dX5_findStretch_49 (fun r2 M1 => ?_)
      refine v_istore (pc := 52) dX5_findStretch_52 (by decide) ?_
      refine v_iload_n (pc := 54) dX5_findStretch_54 rfl ?_
      refine v_iload_n (pc := 55) dX5_findStretch_55 rfl ?_
      refine v_icmp_eq (pc := 56) 79 dX5_findStretch_56 (by decide) ?_ ?_
      · refine v_iinc (pc := 79) 1 dX5_findStretch_79 rfl (by decide) (by decide) ?_
        refine v_goto (pc := 82) 35 dX5_findStretch_82 (by decide) ?_
        exact v_sub (ih c1 hc1 v2 (v3 + 1) M1) rfl
      · refine v_iload (pc := 59) dX5_findStretch_59 rfl ?_
        refine v_iconst (pc := 61) (-1) dX5_findStretch_61 (by decide) ?_
        refine v_icmp_eq (pc := 62) 79 dX5_findStretch_62 (by decide) ?_ ?_
        · refine v_iinc (pc := 79) 1 dX5_findStretch_79 rfl (by decide) (by decide) ?_
          refine v_goto (pc := 82) 35 dX5_findStretch_82 (by decide) ?_
          exact v_sub (ih c1 hc1 v2 (v3 + 1) M1) rfl
        · refine v_aload_n (pc := 65) dX5_findStretch_65 rfl ?_
          refine v_iload_n (pc := 66) dX5_findStretch_66 rfl ?_
          refine v_iload_n (pc := 67) dX5_findStretch_67 rfl ?_
          refine v_iload (pc := 68) dX5_findStretch_68 rfl ?_
          refine v_aload_n (pc := 70) dX5_findStretch_70 rfl ?_
          refine v_iload_n (pc := 71) dX5_findStretch_71 rfl ?_
          refine v_iload_n (pc := 72) dX5_findStretch_72 rfl ?_
          refine v_callV (pc := 73) (As := [.int v2, .int v3]) (cNames_distance l G c1 hc1 v2 v3 M1) zc_X2_distance zk2 rfl hc1.1 tw_796 (by decide) (Nat.le_of_ble_eq_true rfl) dX5_findStretch_73 (fun r4 M3 => ?_)
          refine v_callV (pc := 76) (As := [.int v2, .int v3, .int r2, .int r4]) (cParcels_offer l G v2 v3 r2 r4 M3) zc_X5_offer zk5 rfl lx_48 tw_797 (by decide) (Nat.le_of_ble_eq_true rfl) dX5_findStretch_76 (fun _ M5 => ?_)
          skip
          refine v_iinc (pc := 79) 1 dX5_findStretch_79 rfl (by decide) (by decide) ?_
          refine v_goto (pc := 82) 35 dX5_findStretch_82 (by decide) ?_
          exact v_sub (ih c1 hc1 v2 (v3 + 1) M5) rfl
theorem wParcels_findStretch_22 (l : Launch) (G : zG) : ∀ (fuel : Nat) (c1 : Nat) (hc1 : zN c1) (v2 : Int32) (M : zM), zV eV l G zLX zRX 5 yX5_findStretch cX5_findStretch 5 none 22 [(0, .ref 48), (1, .ref c1), (2, .int v2)] [] M (fParcels_findStretch_22 fuel c1 v2 M) := by
  intro fuel
  induction fuel with
  | zero => intro c1 hc1 v2 M; exact v_none
  | succ fuel ih =>
    intro c1 hc1 v2 M
    rw [fParcels_findStretch_22]
    refine v_iload_n (pc := 22) dX5_findStretch_22 rfl ?_
    refine v_aload_n (pc := 23) dX5_findStretch_23 rfl ?_
    refine v_getR (pc := 24) (q := 0) zk5 lx_48 rfl rx_48_0 tw_308 dX5_findStretch_24 ?_
    refine v_getI (pc := 27) (q := 0) zk3 lx_1 rfl tw_117 dX5_findStretch_27 ?_
    refine v_icmp_ge (pc := 30) 91 dX5_findStretch_30 (by decide) ?_ ?_
    · exact v_vret (pc := 91) dX5_findStretch_91
    · refine v_iconst (pc := 33) 0 dX5_findStretch_33 (by decide) ?_
      refine v_istore_n (pc := 34) dX5_findStretch_34 (by decide) ?_
      exact v_sub (wParcels_findStretch_35 l G (fParcels_findStretch_22 fuel) ih FU c1 hc1 v2 0 M) rfl
theorem wParcels_findStretch (l : Launch) (G : zG) (c1 : Nat) (hc1 : zN c1) (M : zM) : zV eV l G zLX zRX 5 yX5_findStretch cX5_findStretch 5 none 0 [(0, .ref 48), (1, .ref c1)] [] M (fParcels_findStretch c1 M) := by
  rw [fParcels_findStretch]
  refine v_aload_n (pc := 0) dX5_findStretch_0 rfl ?_
  refine v_iconst (pc := 1) 0 dX5_findStretch_1 (by decide) ?_
  refine v_putI (pc := 2) (q := 3) zk5 lx_48 rfl tw_311 rfl rfl rfl dX5_findStretch_2 (fun M1 => ?_)
  refine v_aload_n (pc := 5) dX5_findStretch_5 rfl ?_
  refine v_iconst (pc := 6) 1 dX5_findStretch_6 (by decide) ?_
  refine v_putI (pc := 7) (q := 4) zk5 lx_48 rfl tw_313 rfl rfl rfl dX5_findStretch_7 (fun M2 => ?_)
  refine v_aload_n (pc := 10) dX5_findStretch_10 rfl ?_
  refine v_iconst (pc := 11) (-1) dX5_findStretch_11 (by decide) ?_
  refine v_putI (pc := 12) (q := 5) zk5 lx_48 rfl tw_315 rfl rfl rfl dX5_findStretch_12 (fun M3 => ?_)
  refine v_aload_n (pc := 15) dX5_findStretch_15 rfl ?_
  refine v_iconst (pc := 16) (-1) dX5_findStretch_16 (by decide) ?_
  refine v_putI (pc := 17) (q := 6) zk5 lx_48 rfl tw_317 rfl rfl rfl dX5_findStretch_17 (fun M4 => ?_)
  refine v_iconst (pc := 20) 0 dX5_findStretch_20 (by decide) ?_
  refine v_istore_n (pc := 21) dX5_findStretch_21 (by decide) ?_
  exact v_sub (wParcels_findStretch_22 l G FU c1 hc1 0 M4) rfl
theorem cParcels_findStretch (l : Launch) (G : zG) (c1 : Nat) (hc1 : zN c1) (M : zM) : zC eV l G zLX zRX 5 yX5_findStretch cX5_findStretch 5 none [.ref 48, .ref c1] M (fParcels_findStretch c1 M) := zC.of (by decide) (Nat.le_of_ble_eq_true rfl) (v_sub (wParcels_findStretch l G c1 hc1 M) rfl)
theorem dX5_reduce_0 : decode cX5_reduce 0 = .ok (.aload_n 0, 1) := by decide +kernel
theorem dX5_reduce_1 : decode cX5_reduce 1 = .ok (.getfield 15, 3) := by decide +kernel
theorem dX5_reduce_4 : decode cX5_reduce 4 = .ok (.istore_n 1, 1) := by decide +kernel
theorem dX5_reduce_5 : decode cX5_reduce 5 = .ok (.iload_n 1, 1) := by decide +kernel
theorem dX5_reduce_6 : decode cX5_reduce 6 = .ok (.iconst 1, 1) := by decide +kernel
theorem dX5_reduce_7 : decode cX5_reduce 7 = .ok (.if_icmp .le 47, 3) := by decide +kernel
theorem dX5_reduce_10 : decode cX5_reduce 10 = .ok (.aload_n 0, 1) := by decide +kernel
theorem dX5_reduce_11 : decode cX5_reduce 11 = .ok (.getfield 9, 3) := by decide +kernel
theorem dX5_reduce_14 : decode cX5_reduce 14 = .ok (.iload_n 1, 1) := by decide +kernel
theorem dX5_reduce_15 : decode cX5_reduce 15 = .ok (.irem, 1) := by decide +kernel
theorem dX5_reduce_16 : decode cX5_reduce 16 = .ok (.ifCond .ne 32, 3) := by decide +kernel
theorem dX5_reduce_19 : decode cX5_reduce 19 = .ok (.aload_n 0, 1) := by decide +kernel
theorem dX5_reduce_20 : decode cX5_reduce 20 = .ok (.getfield 15, 3) := by decide +kernel
theorem dX5_reduce_23 : decode cX5_reduce 23 = .ok (.iload_n 1, 1) := by decide +kernel
theorem dX5_reduce_24 : decode cX5_reduce 24 = .ok (.irem, 1) := by decide +kernel
theorem dX5_reduce_25 : decode cX5_reduce 25 = .ok (.ifCond .ne 23, 3) := by decide +kernel
theorem dX5_reduce_28 : decode cX5_reduce 28 = .ok (.aload_n 0, 1) := by decide +kernel
theorem dX5_reduce_29 : decode cX5_reduce 29 = .ok (.dup, 1) := by decide +kernel
theorem dX5_reduce_30 : decode cX5_reduce 30 = .ok (.getfield 9, 3) := by decide +kernel
theorem dX5_reduce_33 : decode cX5_reduce 33 = .ok (.iload_n 1, 1) := by decide +kernel
theorem dX5_reduce_34 : decode cX5_reduce 34 = .ok (.idiv, 1) := by decide +kernel
theorem dX5_reduce_35 : decode cX5_reduce 35 = .ok (.putfield 9, 3) := by decide +kernel
theorem dX5_reduce_38 : decode cX5_reduce 38 = .ok (.aload_n 0, 1) := by decide +kernel
theorem dX5_reduce_39 : decode cX5_reduce 39 = .ok (.dup, 1) := by decide +kernel
theorem dX5_reduce_40 : decode cX5_reduce 40 = .ok (.getfield 15, 3) := by decide +kernel
theorem dX5_reduce_43 : decode cX5_reduce 43 = .ok (.iload_n 1, 1) := by decide +kernel
theorem dX5_reduce_44 : decode cX5_reduce 44 = .ok (.idiv, 1) := by decide +kernel
theorem dX5_reduce_45 : decode cX5_reduce 45 = .ok (.putfield 15, 3) := by decide +kernel
theorem dX5_reduce_48 : decode cX5_reduce 48 = .ok (.iinc 1 (-1), 3) := by decide +kernel
theorem dX5_reduce_51 : decode cX5_reduce 51 = .ok (.goto (-46), 3) := by decide +kernel
theorem dX5_reduce_54 : decode cX5_reduce 54 = .ok (.return_, 1) := by decide +kernel
theorem wParcels_reduce_5 (l : Launch) (G : zG) : ∀ (fuel : Nat) (v1 : Int32) (M : zM), zV eV l G zLX zRX 1 yX5_reduce cX5_reduce 2 none 5 [(0, .ref 48), (1, .int v1)] [] M (fParcels_reduce_5 fuel v1 M) := by
  intro fuel
  induction fuel with
  | zero => intro v1 M; exact v_none
  | succ fuel ih =>
    intro v1 M
    rw [fParcels_reduce_5]
    refine v_iload_n (pc := 5) dX5_reduce_5 rfl ?_
    refine v_iconst (pc := 6) 1 dX5_reduce_6 (by decide) ?_
    refine v_icmp_le (pc := 7) 54 dX5_reduce_7 (by decide) ?_ ?_
    · exact v_vret (pc := 54) dX5_reduce_54
    · refine v_aload_n (pc := 10) dX5_reduce_10 rfl ?_
      refine v_getI (pc := 11) (q := 3) zk5 lx_48 rfl tw_311 dX5_reduce_11 ?_
      refine v_iload_n (pc := 14) dX5_reduce_14 rfl ?_
      refine v_irem (pc := 15) dX5_reduce_15 (fun z1 => ?_)
      refine v_if_ne (pc := 16) 48 dX5_reduce_16 (by decide) ?_ ?_
      · refine v_iinc (pc := 48) (-1) dX5_reduce_48 rfl (by decide) (by decide) ?_
        refine v_goto (pc := 51) 5 dX5_reduce_51 (by decide) ?_
        exact v_sub (ih (v1 + (-1)) M) rfl
      · refine v_aload_n (pc := 19) dX5_reduce_19 rfl ?_
        refine v_getI (pc := 20) (q := 4) zk5 lx_48 rfl tw_313 dX5_reduce_20 ?_
        refine v_iload_n (pc := 23) dX5_reduce_23 rfl ?_
        refine v_irem (pc := 24) dX5_reduce_24 (fun z2 => ?_)
        refine v_if_ne (pc := 25) 48 dX5_reduce_25 (by decide) ?_ ?_
        · refine v_iinc (pc := 48) (-1) dX5_reduce_48 rfl (by decide) (by decide) ?_
          refine v_goto (pc := 51) 5 dX5_reduce_51 (by decide) ?_
          exact v_sub (ih (v1 + (-1)) M) rfl
        · refine v_aload_n (pc := 28) dX5_reduce_28 rfl ?_
          refine v_dup (pc := 29) dX5_reduce_29 rfl ?_
          refine v_getI (pc := 30) (q := 3) zk5 lx_48 rfl tw_311 dX5_reduce_30 ?_
          refine v_iload_n (pc := 33) dX5_reduce_33 rfl ?_
          refine v_idiv (pc := 34) dX5_reduce_34 (fun z3 => ?_)
          refine v_putI (pc := 35) (q := 3) zk5 lx_48 rfl tw_311 rfl rfl rfl dX5_reduce_35 (fun M4 => ?_)
          refine v_aload_n (pc := 38) dX5_reduce_38 rfl ?_
          refine v_dup (pc := 39) dX5_reduce_39 rfl ?_
          refine v_getI (pc := 40) (q := 4) zk5 lx_48 rfl tw_313 dX5_reduce_40 ?_
          refine v_iload_n (pc := 43) dX5_reduce_43 rfl ?_
          refine v_idiv (pc := 44) dX5_reduce_44 (fun z5 => ?_)
          refine v_putI (pc := 45) (q := 4) zk5 lx_48 rfl tw_313 rfl rfl rfl dX5_reduce_45 (fun M6 => ?_)
          refine v_iinc (pc := 48) (-1) dX5_reduce_48 rfl (by decide) (by decide) ?_
          refine v_goto (pc := 51) 5 dX5_reduce_51 (by decide) ?_
          exact v_sub (ih (v1 + (-1)) M6) rfl
theorem wParcels_reduce (l : Launch) (G : zG)  (M : zM) : zV eV l G zLX zRX 1 yX5_reduce cX5_reduce 2 none 0 [(0, .ref 48)] [] M (fParcels_reduce  M) := by
  rw [fParcels_reduce]
  refine v_aload_n (pc := 0) dX5_reduce_0 rfl ?_
  refine v_getI (pc := 1) (q := 4) zk5 lx_48 rfl tw_313 dX5_reduce_1 ?_
  refine v_istore_nL (pc := 4) dX5_reduce_4 (by decide) (fun u1_4 => ?_)
  exact v_sub (wParcels_reduce_5 l G FU u1_4 M) rfl
theorem cParcels_reduce (l : Launch) (G : zG)  (M : zM) : zC eV l G zLX zRX 1 yX5_reduce cX5_reduce 2 none [.ref 48] M (fParcels_reduce  M) := zC.of (by decide) (Nat.le_of_ble_eq_true rfl) (v_sub (wParcels_reduce l G  M) rfl)
theorem dX5_fresh_0 : decode cX5_fresh 0 = .ok (.aload_n 0, 1) := by decide +kernel
theorem dX5_fresh_1 : decode cX5_fresh 1 = .ok (.getfield 24, 3) := by decide +kernel
theorem dX5_fresh_4 : decode cX5_fresh 4 = .ok (.aload_n 0, 1) := by decide +kernel
theorem dX5_fresh_5 : decode cX5_fresh 5 = .ok (.getfield 27, 3) := by decide +kernel
theorem dX5_fresh_8 : decode cX5_fresh 8 = .ok (.getfield 70, 3) := by decide +kernel
theorem dX5_fresh_11 : decode cX5_fresh 11 = .ok (.if_icmp .eq 30, 3) := by decide +kernel
theorem dX5_fresh_14 : decode cX5_fresh 14 = .ok (.aload_n 0, 1) := by decide +kernel
theorem dX5_fresh_15 : decode cX5_fresh 15 = .ok (.aload_n 0, 1) := by decide +kernel
theorem dX5_fresh_16 : decode cX5_fresh 16 = .ok (.getfield 27, 3) := by decide +kernel
theorem dX5_fresh_19 : decode cX5_fresh 19 = .ok (.getfield 70, 3) := by decide +kernel
theorem dX5_fresh_22 : decode cX5_fresh 22 = .ok (.putfield 24, 3) := by decide +kernel
theorem dX5_fresh_25 : decode cX5_fresh 25 = .ok (.aload_n 0, 1) := by decide +kernel
theorem dX5_fresh_26 : decode cX5_fresh 26 = .ok (.aload_n 0, 1) := by decide +kernel
theorem dX5_fresh_27 : decode cX5_fresh 27 = .ok (.getfield 35, 3) := by decide +kernel
theorem dX5_fresh_30 : decode cX5_fresh 30 = .ok (.iconst 2, 1) := by decide +kernel
theorem dX5_fresh_31 : decode cX5_fresh 31 = .ok (.invokevirtual 73, 3) := by decide +kernel
theorem dX5_fresh_34 : decode cX5_fresh 34 = .ok (.invokevirtual 79, 3) := by decide +kernel
theorem dX5_fresh_37 : decode cX5_fresh 37 = .ok (.aload_n 0, 1) := by decide +kernel
theorem dX5_fresh_38 : decode cX5_fresh 38 = .ok (.invokevirtual 83, 3) := by decide +kernel
theorem dX5_fresh_41 : decode cX5_fresh 41 = .ok (.aload_n 0, 1) := by decide +kernel
theorem dX5_fresh_42 : decode cX5_fresh 42 = .ok (.areturn, 1) := by decide +kernel
theorem wParcels_fresh (l : Launch) (G : zG)  (M : zM) : zV eR l G zLX zRX 6 yX5_fresh cX5_fresh 1 (some (.object "NameNets$Parcels")) 0 [(0, .ref 48)] [] M (fParcels_fresh  M) := by
  rw [fParcels_fresh]
  refine v_aload_n (pc := 0) dX5_fresh_0 rfl ?_
  refine v_getI (pc := 1) (q := 7) zk5 lx_48 rfl tw_319 dX5_fresh_1 ?_
  refine v_aload_n (pc := 4) dX5_fresh_4 rfl ?_
  refine v_getR (pc := 5) (q := 0) zk5 lx_48 rfl rx_48_0 tw_308 dX5_fresh_5 ?_
  refine v_getI (pc := 8) (q := 2) zk3 lx_1 rfl tw_128 dX5_fresh_8 ?_
  refine v_icmp_eq (pc := 11) 41 dX5_fresh_11 (by decide) ?_ ?_
  · refine v_aload_n (pc := 41) dX5_fresh_41 rfl ?_
    exact v_aret (pc := 42) dX5_fresh_42
  · refine v_aload_n (pc := 14) dX5_fresh_14 rfl ?_
    refine v_aload_n (pc := 15) dX5_fresh_15 rfl ?_
    refine v_getR (pc := 16) (q := 0) zk5 lx_48 rfl rx_48_0 tw_308 dX5_fresh_16 ?_
    refine v_getI (pc := 19) (q := 2) zk3 lx_1 rfl tw_128 dX5_fresh_19 ?_
    refine v_putI (pc := 22) (q := 7) zk5 lx_48 rfl tw_319 rfl rfl rfl dX5_fresh_22 (fun M1 => ?_)
    refine v_aload_n (pc := 25) dX5_fresh_25 rfl ?_
    refine v_aload_n (pc := 26) dX5_fresh_26 rfl ?_
    refine v_getR (pc := 27) (q := 2) zk5 lx_48 rfl rx_48_2 tw_310 dX5_fresh_27 ?_
    refine v_iconst (pc := 30) 2 dX5_fresh_30 (by decide) ?_
    refine v_callV (pc := 31) (As := [.int 2]) (cLabels_now l G 2 M1) zc_X1_now zk1 rfl lx_14 tw_790 (by decide) (Nat.le_of_ble_eq_true rfl) dX5_fresh_31 (fun r3 M2 => ?_)
    refine v_ifP (fun hgr3 => ?_)
    have hr3 := zN_of hgr3
    refine v_callV (pc := 34) (As := [.ref r3]) (cParcels_findStretch l G r3 hr3 M2) zc_X5_findStretch zk5 rfl lx_48 tw_791 (by decide) (Nat.le_of_ble_eq_true rfl) dX5_fresh_34 (fun _ M4 => ?_)
    skip
    refine v_aload_n (pc := 37) dX5_fresh_37 rfl ?_
    refine v_callV (pc := 38) (As := []) (cParcels_reduce l G  M4) zc_X5_reduce zk5 rfl lx_48 tw_801 (by decide) (Nat.le_of_ble_eq_true rfl) dX5_fresh_38 (fun _ M5 => ?_)
    skip
    refine v_aload_n (pc := 41) dX5_fresh_41 rfl ?_
    exact v_aret (pc := 42) dX5_fresh_42
theorem cParcels_fresh (l : Launch) (G : zG)  (M : zM) : zC eR l G zLX zRX 6 yX5_fresh cX5_fresh 1 (some (.object "NameNets$Parcels")) [.ref 48] M (fParcels_fresh  M) := zC.of (by decide) (Nat.le_of_ble_eq_true rfl) (v_sub (wParcels_fresh l G  M) rfl)
