theorem dX7_pairs_0 : decode cX7_pairs 0 = .ok (.iload_n 0, 1) := by decide +kernel
theorem dX7_pairs_1 : decode cX7_pairs 1 = .ok (.iload_n 0, 1) := by decide +kernel
theorem dX7_pairs_2 : decode cX7_pairs 2 = .ok (.iconst 1, 1) := by decide +kernel
theorem dX7_pairs_3 : decode cX7_pairs 3 = .ok (.isub, 1) := by decide +kernel
theorem dX7_pairs_4 : decode cX7_pairs 4 = .ok (.imul, 1) := by decide +kernel
theorem dX7_pairs_5 : decode cX7_pairs 5 = .ok (.iconst 2, 1) := by decide +kernel
theorem dX7_pairs_6 : decode cX7_pairs 6 = .ok (.idiv, 1) := by decide +kernel
theorem dX7_pairs_7 : decode cX7_pairs 7 = .ok (.ireturn, 1) := by decide +kernel
theorem wSmallNets_pairs (l : Launch) (G : zG) (v0 : Int32) (M : zM) : zV eI l G zLX zRX 1 yX7_pairs cX7_pairs 1 (some .int) 0 [(0, .int v0)] [] M (fSmallNets_pairs v0 M) := by
  rw [fSmallNets_pairs]
  refine v_iload_n (pc := 0) dX7_pairs_0 rfl ?_
  refine v_iload_n (pc := 1) dX7_pairs_1 rfl ?_
  refine v_iconst (pc := 2) 1 dX7_pairs_2 (by decide) ?_
  refine v_isub (pc := 3) dX7_pairs_3 ?_
  refine v_imul (pc := 4) dX7_pairs_4 ?_
  refine v_iconst (pc := 5) 2 dX7_pairs_5 (by decide) ?_
  refine v_idiv (pc := 6) dX7_pairs_6 (fun z1 => ?_)
  exact v_iret (pc := 7) dX7_pairs_7
theorem cSmallNets_pairs (l : Launch) (G : zG) (v0 : Int32) (M : zM) : zC eI l G zLX zRX 1 yX7_pairs cX7_pairs 1 (some .int) [.int v0] M (fSmallNets_pairs v0 M) := zC.of (by decide) (Nat.le_of_ble_eq_true rfl) (v_sub (wSmallNets_pairs l G v0 M) rfl)
theorem dX7_isOne_0 : decode cX7_isOne 0 = .ok (.iload_n 0, 1) := by decide +kernel
theorem dX7_isOne_1 : decode cX7_isOne 1 = .ok (.iconst 1, 1) := by decide +kernel
theorem dX7_isOne_2 : decode cX7_isOne 2 = .ok (.if_icmp .lt 26, 3) := by decide +kernel
theorem dX7_isOne_5 : decode cX7_isOne 5 = .ok (.iload_n 0, 1) := by decide +kernel
theorem dX7_isOne_6 : decode cX7_isOne 6 = .ok (.iconst 5, 1) := by decide +kernel
theorem dX7_isOne_7 : decode cX7_isOne 7 = .ok (.if_icmp .gt 21, 3) := by decide +kernel
theorem dX7_isOne_10 : decode cX7_isOne 10 = .ok (.iload_n 1, 1) := by decide +kernel
theorem dX7_isOne_11 : decode cX7_isOne 11 = .ok (.ifCond .lt 17, 3) := by decide +kernel
theorem dX7_isOne_14 : decode cX7_isOne 14 = .ok (.iload_n 1, 1) := by decide +kernel
theorem dX7_isOne_15 : decode cX7_isOne 15 = .ok (.iconst 1, 1) := by decide +kernel
theorem dX7_isOne_16 : decode cX7_isOne 16 = .ok (.iload_n 0, 1) := by decide +kernel
theorem dX7_isOne_17 : decode cX7_isOne 17 = .ok (.invokestatic 22, 3) := by decide +kernel
theorem dX7_isOne_20 : decode cX7_isOne 20 = .ok (.ishl, 1) := by decide +kernel
theorem dX7_isOne_21 : decode cX7_isOne 21 = .ok (.if_icmp .ge 7, 3) := by decide +kernel
theorem dX7_isOne_24 : decode cX7_isOne 24 = .ok (.iconst 1, 1) := by decide +kernel
theorem dX7_isOne_25 : decode cX7_isOne 25 = .ok (.goto 4, 3) := by decide +kernel
theorem dX7_isOne_28 : decode cX7_isOne 28 = .ok (.iconst 0, 1) := by decide +kernel
theorem dX7_isOne_29 : decode cX7_isOne 29 = .ok (.ireturn, 1) := by decide +kernel
theorem wSmallNets_isOne (l : Launch) (G : zG) (v0 : Int32) (v1 : Int32) (M : zM) : zV eI l G zLX zRX 2 yX7_isOne cX7_isOne 2 (some .boolean) 0 [(0, .int v0), (1, .int v1)] [] M (fSmallNets_isOne v0 v1 M) := by
  rw [fSmallNets_isOne]
  refine v_iload_n (pc := 0) dX7_isOne_0 rfl ?_
  refine v_iconst (pc := 1) 1 dX7_isOne_1 (by decide) ?_
  refine v_icmp_lt (pc := 2) 28 dX7_isOne_2 (by decide) ?_ ?_
  · refine v_iconst (pc := 28) 0 dX7_isOne_28 (by decide) ?_
    exact v_zret (pc := 29) dX7_isOne_29
  · refine v_iload_n (pc := 5) dX7_isOne_5 rfl ?_
    refine v_iconst (pc := 6) 5 dX7_isOne_6 (by decide) ?_
    refine v_icmp_gt (pc := 7) 28 dX7_isOne_7 (by decide) ?_ ?_
    · refine v_iconst (pc := 28) 0 dX7_isOne_28 (by decide) ?_
      exact v_zret (pc := 29) dX7_isOne_29
    · refine v_iload_n (pc := 10) dX7_isOne_10 rfl ?_
      refine v_if_lt (pc := 11) 28 dX7_isOne_11 (by decide) ?_ ?_
      · refine v_iconst (pc := 28) 0 dX7_isOne_28 (by decide) ?_
        exact v_zret (pc := 29) dX7_isOne_29
      · refine v_iload_n (pc := 14) dX7_isOne_14 rfl ?_
        refine v_iconst (pc := 15) 1 dX7_isOne_15 (by decide) ?_
        refine v_iload_n (pc := 16) dX7_isOne_16 rfl ?_
        refine v_callS (pc := 17) (As := [.int v0]) (cSmallNets_pairs l G v0 M) zc_X7_pairs tw_843 (by decide) (Nat.le_of_ble_eq_true rfl) dX7_isOne_17 (fun r2 M1 => ?_)
        refine v_ishl (pc := 20) dX7_isOne_20 ?_
        refine v_icmp_ge (pc := 21) 28 dX7_isOne_21 (by decide) ?_ ?_
        · refine v_iconst (pc := 28) 0 dX7_isOne_28 (by decide) ?_
          exact v_zret (pc := 29) dX7_isOne_29
        · refine v_iconst (pc := 24) 1 dX7_isOne_24 (by decide) ?_
          refine v_goto (pc := 25) 29 dX7_isOne_25 (by decide) ?_
          exact v_zret (pc := 29) dX7_isOne_29
theorem cSmallNets_isOne (l : Launch) (G : zG) (v0 : Int32) (v1 : Int32) (M : zM) : zC eI l G zLX zRX 2 yX7_isOne cX7_isOne 2 (some .boolean) [.int v0, .int v1] M (fSmallNets_isOne v0 v1 M) := zC.of (by decide) (Nat.le_of_ble_eq_true rfl) (v_sub (wSmallNets_isOne l G v0 v1 M) rfl)
theorem dX7_pairBit_0 : decode cX7_pairBit 0 = .ok (.iconst 1, 1) := by decide +kernel
theorem dX7_pairBit_1 : decode cX7_pairBit 1 = .ok (.iload_n 0, 1) := by decide +kernel
theorem dX7_pairBit_2 : decode cX7_pairBit 2 = .ok (.iload_n 1, 1) := by decide +kernel
theorem dX7_pairBit_3 : decode cX7_pairBit 3 = .ok (.invokestatic 26, 3) := by decide +kernel
theorem dX7_pairBit_6 : decode cX7_pairBit 6 = .ok (.invokestatic 22, 3) := by decide +kernel
theorem dX7_pairBit_9 : decode cX7_pairBit 9 = .ok (.iload_n 0, 1) := by decide +kernel
theorem dX7_pairBit_10 : decode cX7_pairBit 10 = .ok (.iload_n 1, 1) := by decide +kernel
theorem dX7_pairBit_11 : decode cX7_pairBit 11 = .ok (.invokestatic 32, 3) := by decide +kernel
theorem dX7_pairBit_14 : decode cX7_pairBit 14 = .ok (.iadd, 1) := by decide +kernel
theorem dX7_pairBit_15 : decode cX7_pairBit 15 = .ok (.ishl, 1) := by decide +kernel
theorem dX7_pairBit_16 : decode cX7_pairBit 16 = .ok (.ireturn, 1) := by decide +kernel
theorem wSmallNets_pairBit (l : Launch) (G : zG) (v0 : Int32) (v1 : Int32) (M : zM) : zV eI l G zLX zRX 2 yX7_pairBit cX7_pairBit 2 (some .int) 0 [(0, .int v0), (1, .int v1)] [] M (fSmallNets_pairBit v0 v1 M) := by
  rw [fSmallNets_pairBit]
  refine v_iconst (pc := 0) 1 dX7_pairBit_0 (by decide) ?_
  refine v_iload_n (pc := 1) dX7_pairBit_1 rfl ?_
  refine v_iload_n (pc := 2) dX7_pairBit_2 rfl ?_
  refine v_mmax (pc := 3) tw_861 (by decide) (Nat.le_of_ble_eq_true rfl) dX7_pairBit_3 ?_
  refine v_callS (pc := 6) (As := [.int (zmax v0 v1)]) (cSmallNets_pairs l G (zmax v0 v1) M) zc_X7_pairs tw_843 (by decide) (Nat.le_of_ble_eq_true rfl) dX7_pairBit_6 (fun r2 M1 => ?_)
  refine v_iload_n (pc := 9) dX7_pairBit_9 rfl ?_
  refine v_iload_n (pc := 10) dX7_pairBit_10 rfl ?_
  refine v_mmin (pc := 11) tw_862 (by decide) (Nat.le_of_ble_eq_true rfl) dX7_pairBit_11 ?_
  refine v_iadd (pc := 14) dX7_pairBit_14 ?_
  refine v_ishl (pc := 15) dX7_pairBit_15 ?_
  exact v_iret (pc := 16) dX7_pairBit_16
theorem cSmallNets_pairBit (l : Launch) (G : zG) (v0 : Int32) (v1 : Int32) (M : zM) : zC eI l G zLX zRX 2 yX7_pairBit cX7_pairBit 2 (some .int) [.int v0, .int v1] M (fSmallNets_pairBit v0 v1 M) := zC.of (by decide) (Nat.le_of_ble_eq_true rfl) (v_sub (wSmallNets_pairBit l G v0 v1 M) rfl)
theorem dX7_numberOf_0 : decode cX7_numberOf 0 = .ok (.iconst 0, 1) := by decide +kernel
theorem dX7_numberOf_1 : decode cX7_numberOf 1 = .ok (.istore_n 1, 1) := by decide +kernel
theorem dX7_numberOf_2 : decode cX7_numberOf 2 = .ok (.iconst 0, 1) := by decide +kernel
theorem dX7_numberOf_3 : decode cX7_numberOf 3 = .ok (.istore_n 2, 1) := by decide +kernel
theorem dX7_numberOf_4 : decode cX7_numberOf 4 = .ok (.iload_n 2, 1) := by decide +kernel
theorem dX7_numberOf_5 : decode cX7_numberOf 5 = .ok (.aload_n 0, 1) := by decide +kernel
theorem dX7_numberOf_6 : decode cX7_numberOf 6 = .ok (.getfield 35, 3) := by decide +kernel
theorem dX7_numberOf_9 : decode cX7_numberOf 9 = .ok (.if_icmp .ge 27, 3) := by decide +kernel
theorem dX7_numberOf_12 : decode cX7_numberOf 12 = .ok (.iload_n 1, 1) := by decide +kernel
theorem dX7_numberOf_13 : decode cX7_numberOf 13 = .ok (.aload_n 0, 1) := by decide +kernel
theorem dX7_numberOf_14 : decode cX7_numberOf 14 = .ok (.getfield 40, 3) := by decide +kernel
theorem dX7_numberOf_17 : decode cX7_numberOf 17 = .ok (.iload_n 2, 1) := by decide +kernel
theorem dX7_numberOf_18 : decode cX7_numberOf 18 = .ok (.iaload, 1) := by decide +kernel
theorem dX7_numberOf_19 : decode cX7_numberOf 19 = .ok (.aload_n 0, 1) := by decide +kernel
theorem dX7_numberOf_20 : decode cX7_numberOf 20 = .ok (.getfield 43, 3) := by decide +kernel
theorem dX7_numberOf_23 : decode cX7_numberOf 23 = .ok (.iload_n 2, 1) := by decide +kernel
theorem dX7_numberOf_24 : decode cX7_numberOf 24 = .ok (.iaload, 1) := by decide +kernel
theorem dX7_numberOf_25 : decode cX7_numberOf 25 = .ok (.invokestatic 46, 3) := by decide +kernel
theorem dX7_numberOf_28 : decode cX7_numberOf 28 = .ok (.ior, 1) := by decide +kernel
theorem dX7_numberOf_29 : decode cX7_numberOf 29 = .ok (.istore_n 1, 1) := by decide +kernel
theorem dX7_numberOf_30 : decode cX7_numberOf 30 = .ok (.iinc 2 1, 3) := by decide +kernel
theorem dX7_numberOf_33 : decode cX7_numberOf 33 = .ok (.goto (-29), 3) := by decide +kernel
theorem dX7_numberOf_36 : decode cX7_numberOf 36 = .ok (.iload_n 1, 1) := by decide +kernel
theorem dX7_numberOf_37 : decode cX7_numberOf 37 = .ok (.ireturn, 1) := by decide +kernel
theorem wSmallNets_numberOf_4 (l : Launch) (G : zG) : ∀ (fuel : Nat) (v1 : Int32) (v2 : Int32) (M : zM), zV eI l G zLX zRX 3 yX7_numberOf cX7_numberOf 3 (some .int) 4 [(0, .ref 1), (1, .int v1), (2, .int v2)] [] M (fSmallNets_numberOf_4 fuel v1 v2 M) := by
  intro fuel
  induction fuel with
  | zero => intro v1 v2 M; exact v_none
  | succ fuel ih =>
    intro v1 v2 M
    rw [fSmallNets_numberOf_4]
    refine v_iload_n (pc := 4) dX7_numberOf_4 rfl ?_
    refine v_aload_n (pc := 5) dX7_numberOf_5 rfl ?_
    refine v_getI (pc := 6) (q := 1) zk3 lx_1 rfl tw_123 dX7_numberOf_6 ?_
    refine v_icmp_ge (pc := 9) 36 dX7_numberOf_9 (by decide) ?_ ?_
    · refine v_iload_n (pc := 36) dX7_numberOf_36 rfl ?_
      exact v_iret (pc := 37) dX7_numberOf_37
    · refine v_iload_n (pc := 12) dX7_numberOf_12 rfl ?_
      refine v_aload_n (pc := 13) dX7_numberOf_13 rfl ?_
      refine v_getR (pc := 14) (q := 3) zk3 lx_1 rfl rx_1_3 tw_130 dX7_numberOf_14 ?_
      refine v_iload_n (pc := 17) dX7_numberOf_17 rfl ?_
      refine v_iald (pc := 18) lx_2 dX7_numberOf_18 (fun x1 => ?_)
      refine v_aload_n (pc := 19) dX7_numberOf_19 rfl ?_
      refine v_getR (pc := 20) (q := 4) zk3 lx_1 rfl rx_1_4 tw_134 dX7_numberOf_20 ?_
      refine v_iload_n (pc := 23) dX7_numberOf_23 rfl ?_
      refine v_iald (pc := 24) lx_3 dX7_numberOf_24 (fun x2 => ?_)
      refine v_callS (pc := 25) (As := [.int x1, .int x2]) (cSmallNets_pairBit l G x1 x2 M) zc_X7_pairBit tw_858 (by decide) (Nat.le_of_ble_eq_true rfl) dX7_numberOf_25 (fun r4 M3 => ?_)
      refine v_ior (pc := 28) dX7_numberOf_28 ?_
      refine v_istore_nL (pc := 29) dX7_numberOf_29 (by decide) (fun u1_29 => ?_)
      refine v_iinc (pc := 30) 1 dX7_numberOf_30 rfl (by decide) (by decide) ?_
      refine v_goto (pc := 33) 4 dX7_numberOf_33 (by decide) ?_
      exact v_sub (ih u1_29 (v2 + 1) M3) rfl
theorem wSmallNets_numberOf (l : Launch) (G : zG)  (M : zM) : zV eI l G zLX zRX 3 yX7_numberOf cX7_numberOf 3 (some .int) 0 [(0, .ref 1)] [] M (fSmallNets_numberOf  M) := by
  rw [fSmallNets_numberOf]
  refine v_iconst (pc := 0) 0 dX7_numberOf_0 (by decide) ?_
  refine v_istore_n (pc := 1) dX7_numberOf_1 (by decide) ?_
  refine v_iconst (pc := 2) 0 dX7_numberOf_2 (by decide) ?_
  refine v_istore_n (pc := 3) dX7_numberOf_3 (by decide) ?_
  exact v_sub (wSmallNets_numberOf_4 l G FU 0 0 M) rfl
theorem cSmallNets_numberOf (l : Launch) (G : zG)  (M : zM) : zC eI l G zLX zRX 3 yX7_numberOf cX7_numberOf 3 (some .int) [.ref 1] M (fSmallNets_numberOf  M) := zC.of (by decide) (Nat.le_of_ble_eq_true rfl) (v_sub (wSmallNets_numberOf l G  M) rfl)
theorem dX7_fits_0 : decode cX7_fits 0 = .ok (.iconst 0, 1) := by decide +kernel
theorem dX7_fits_1 : decode cX7_fits 1 = .ok (.istore 4, 2) := by decide +kernel
theorem dX7_fits_3 : decode cX7_fits 3 = .ok (.iload 4, 2) := by decide +kernel
theorem dX7_fits_5 : decode cX7_fits 5 = .ok (.iload_n 3, 1) := by decide +kernel
theorem dX7_fits_6 : decode cX7_fits 6 = .ok (.if_icmp .ge 78, 3) := by decide +kernel
theorem dX7_fits_9 : decode cX7_fits 9 = .ok (.aload_n 0, 1) := by decide +kernel
theorem dX7_fits_10 : decode cX7_fits 10 = .ok (.getfield 9, 3) := by decide +kernel
theorem dX7_fits_13 : decode cX7_fits 13 = .ok (.iload 4, 2) := by decide +kernel
theorem dX7_fits_15 : decode cX7_fits 15 = .ok (.iaload, 1) := by decide +kernel
theorem dX7_fits_16 : decode cX7_fits 16 = .ok (.aload_n 0, 1) := by decide +kernel
theorem dX7_fits_17 : decode cX7_fits 17 = .ok (.getfield 9, 3) := by decide +kernel
theorem dX7_fits_20 : decode cX7_fits 20 = .ok (.iload_n 3, 1) := by decide +kernel
theorem dX7_fits_21 : decode cX7_fits 21 = .ok (.iaload, 1) := by decide +kernel
theorem dX7_fits_22 : decode cX7_fits 22 = .ok (.if_icmp .ne 5, 3) := by decide +kernel
theorem dX7_fits_25 : decode cX7_fits 25 = .ok (.iconst 0, 1) := by decide +kernel
theorem dX7_fits_26 : decode cX7_fits 26 = .ok (.ireturn, 1) := by decide +kernel
theorem dX7_fits_27 : decode cX7_fits 27 = .ok (.iload_n 2, 1) := by decide +kernel
theorem dX7_fits_28 : decode cX7_fits 28 = .ok (.iload 4, 2) := by decide +kernel
theorem dX7_fits_30 : decode cX7_fits 30 = .ok (.iload_n 3, 1) := by decide +kernel
theorem dX7_fits_31 : decode cX7_fits 31 = .ok (.invokestatic 46, 3) := by decide +kernel
theorem dX7_fits_34 : decode cX7_fits 34 = .ok (.iand, 1) := by decide +kernel
theorem dX7_fits_35 : decode cX7_fits 35 = .ok (.ifCond .eq 7, 3) := by decide +kernel
theorem dX7_fits_38 : decode cX7_fits 38 = .ok (.iconst 1, 1) := by decide +kernel
theorem dX7_fits_39 : decode cX7_fits 39 = .ok (.goto 4, 3) := by decide +kernel
theorem dX7_fits_42 : decode cX7_fits 42 = .ok (.iconst 0, 1) := by decide +kernel
theorem dX7_fits_43 : decode cX7_fits 43 = .ok (.istore 5, 2) := by decide +kernel
theorem dX7_fits_45 : decode cX7_fits 45 = .ok (.iload 5, 2) := by decide +kernel
theorem dX7_fits_47 : decode cX7_fits 47 = .ok (.iload_n 1, 1) := by decide +kernel
theorem dX7_fits_48 : decode cX7_fits 48 = .ok (.aload_n 0, 1) := by decide +kernel
theorem dX7_fits_49 : decode cX7_fits 49 = .ok (.getfield 9, 3) := by decide +kernel
theorem dX7_fits_52 : decode cX7_fits 52 = .ok (.iload 4, 2) := by decide +kernel
theorem dX7_fits_54 : decode cX7_fits 54 = .ok (.iaload, 1) := by decide +kernel
theorem dX7_fits_55 : decode cX7_fits 55 = .ok (.aload_n 0, 1) := by decide +kernel
theorem dX7_fits_56 : decode cX7_fits 56 = .ok (.getfield 9, 3) := by decide +kernel
theorem dX7_fits_59 : decode cX7_fits 59 = .ok (.iload_n 3, 1) := by decide +kernel
theorem dX7_fits_60 : decode cX7_fits 60 = .ok (.iaload, 1) := by decide +kernel
theorem dX7_fits_61 : decode cX7_fits 61 = .ok (.invokestatic 46, 3) := by decide +kernel
theorem dX7_fits_64 : decode cX7_fits 64 = .ok (.iand, 1) := by decide +kernel
theorem dX7_fits_65 : decode cX7_fits 65 = .ok (.ifCond .eq 7, 3) := by decide +kernel
theorem dX7_fits_68 : decode cX7_fits 68 = .ok (.iconst 1, 1) := by decide +kernel
theorem dX7_fits_69 : decode cX7_fits 69 = .ok (.goto 4, 3) := by decide +kernel
theorem dX7_fits_72 : decode cX7_fits 72 = .ok (.iconst 0, 1) := by decide +kernel
theorem dX7_fits_73 : decode cX7_fits 73 = .ok (.if_icmp .eq 5, 3) := by decide +kernel
theorem dX7_fits_76 : decode cX7_fits 76 = .ok (.iconst 0, 1) := by decide +kernel
theorem dX7_fits_77 : decode cX7_fits 77 = .ok (.ireturn, 1) := by decide +kernel
theorem dX7_fits_78 : decode cX7_fits 78 = .ok (.iinc 4 1, 3) := by decide +kernel
theorem dX7_fits_81 : decode cX7_fits 81 = .ok (.goto (-78), 3) := by decide +kernel
theorem dX7_fits_84 : decode cX7_fits 84 = .ok (.iconst 1, 1) := by decide +kernel
theorem dX7_fits_85 : decode cX7_fits 85 = .ok (.ireturn, 1) := by decide +kernel
theorem wSmallNets_fits_73 (l : Launch) (G : zG) (k3 : Int32 → Int32 → Int32 → Int32 → zM → Option (Int32 × zM)) (hk3 : ∀ (v1 : Int32) (v2 : Int32) (v3 : Int32) (v4 : Int32) (M : zM), zV eI l G zLX zRX 3 yX7_fits cX7_fits 6 (some .boolean) 3 [(0, .ref 53), (1, .int v1), (2, .int v2), (3, .int v3), (4, .int v4)] [] M (k3 v1 v2 v3 v4 M)) (v1 : Int32) (v2 : Int32) (v3 : Int32) (v4 : Int32) (vs0 : Int32) (vs1 : Int32) (M : zM) : zV eI l G zLX zRX 3 yX7_fits cX7_fits 6 (some .boolean) 73 [(0, .ref 53), (1, .int v1), (2, .int v2), (3, .int v3), (4, .int v4)] [.int vs0, .int vs1] M (fSmallNets_fits_73 k3 v1 v2 v3 v4 vs0 vs1 M) := by
  rw [fSmallNets_fits_73]
  refine v_icmp_eq (pc := 73) 78 dX7_fits_73 (by decide) ?_ ?_
  · refine v_iinc (pc := 78) 1 dX7_fits_78 rfl (by decide) (by decide) ?_
    refine v_goto (pc := 81) 3 dX7_fits_81 (by decide) ?_
    exact v_sub (hk3 v1 v2 v3 (v4 + 1) M) rfl
  · refine v_iconst (pc := 76) 0 dX7_fits_76 (by decide) ?_
    exact v_zret (pc := 77) dX7_fits_77
theorem wSmallNets_fits_43 (l : Launch) (G : zG) (k3 : Int32 → Int32 → Int32 → Int32 → zM → Option (Int32 × zM)) (hk3 : ∀ (v1 : Int32) (v2 : Int32) (v3 : Int32) (v4 : Int32) (M : zM), zV eI l G zLX zRX 3 yX7_fits cX7_fits 6 (some .boolean) 3 [(0, .ref 53), (1, .int v1), (2, .int v2), (3, .int v3), (4, .int v4)] [] M (k3 v1 v2 v3 v4 M)) (v1 : Int32) (v2 : Int32) (v3 : Int32) (v4 : Int32) (vs0 : Int32) (M : zM) : zV eI l G zLX zRX 3 yX7_fits cX7_fits 6 (some .boolean) 43 [(0, .ref 53), (1, .int v1), (2, .int v2), (3, .int v3), (4, .int v4)] [.int vs0] M (fSmallNets_fits_43 k3 v1 v2 v3 v4 vs0 M) := by
  rw [fSmallNets_fits_43]
  refine v_istore (pc := 43) dX7_fits_43 (by decide) ?_
  refine v_iload (pc := 45) dX7_fits_45 rfl ?_
  refine v_iload_n (pc := 47) dX7_fits_47 rfl ?_
  refine v_aload_n (pc := 48) dX7_fits_48 rfl ?_
  refine v_getR (pc := 49) (q := 0) zk7 lx_53 rfl rx_53_0 tw_365 dX7_fits_49 ?_
  refine v_iload (pc := 52) dX7_fits_52 rfl ?_
  refine v_iald (pc := 54) lx_54 dX7_fits_54 (fun x1 => ?_)
  refine v_aload_n (pc := 55) dX7_fits_55 rfl ?_
  refine v_getR (pc := 56) (q := 0) zk7 lx_53 rfl rx_53_0 tw_365 dX7_fits_56 ?_
  refine v_iload_n (pc := 59) dX7_fits_59 rfl ?_
  refine v_iald (pc := 60) lx_54 dX7_fits_60 (fun x2 => ?_)
  refine v_callS (pc := 61) (As := [.int x1, .int x2]) (cSmallNets_pairBit l G x1 x2 M) zc_X7_pairBit tw_858 (by decide) (Nat.le_of_ble_eq_true rfl) dX7_fits_61 (fun r4 M3 => ?_)
  refine v_iand (pc := 64) dX7_fits_64 ?_
  refine v_if_eq (pc := 65) 72 dX7_fits_65 (by decide) ?_ ?_
  · refine v_iconst (pc := 72) 0 dX7_fits_72 (by decide) ?_
    exact v_sub (wSmallNets_fits_73 l G k3 hk3 v1 v2 v3 v4 0 vs0 M3) rfl
  · refine v_iconst (pc := 68) 1 dX7_fits_68 (by decide) ?_
    refine v_goto (pc := 69) 73 dX7_fits_69 (by decide) ?_
    exact v_sub (wSmallNets_fits_73 l G k3 hk3 v1 v2 v3 v4 1 vs0 M3) rfl
theorem wSmallNets_fits_3 (l : Launch) (G : zG) : ∀ (fuel : Nat) (v1 : Int32) (v2 : Int32) (v3 : Int32) (v4 : Int32) (M : zM), zV eI l G zLX zRX 3 yX7_fits cX7_fits 6 (some .boolean) 3 [(0, .ref 53), (1, .int v1), (2, .int v2), (3, .int v3), (4, .int v4)] [] M (fSmallNets_fits_3 fuel v1 v2 v3 v4 M) := by
  intro fuel
  induction fuel with
  | zero => intro v1 v2 v3 v4 M; exact v_none
  | succ fuel ih =>
    intro v1 v2 v3 v4 M
    rw [fSmallNets_fits_3]
    refine v_iload (pc := 3) dX7_fits_3 rfl ?_
    refine v_iload_n (pc := 5) dX7_fits_5 rfl ?_
    refine v_icmp_ge (pc := 6) 84 dX7_fits_6 (by decide) ?_ ?_
    · refine v_iconst (pc := 84) 1 dX7_fits_84 (by decide) ?_
      exact v_zret (pc := 85) dX7_fits_85
    · refine v_aload_n (pc := 9) dX7_fits_9 rfl ?_
      refine v_getR (pc := 10) (q := 0) zk7 lx_53 rfl rx_53_0 tw_365 dX7_fits_10 ?_
      refine v_iload (pc := 13) dX7_fits_13 rfl ?_
      refine v_iald (pc := 15) lx_54 dX7_fits_15 (fun x1 => ?_)
      refine v_aload_n (pc := 16) dX7_fits_16 rfl ?_
      refine v_getR (pc := 17) (q := 0) zk7 lx_53 rfl rx_53_0 tw_365 dX7_fits_17 ?_
      refine v_iload_n (pc := 20) dX7_fits_20 rfl ?_
      refine v_iald (pc := 21) lx_54 dX7_fits_21 (fun x2 => ?_)
      refine v_icmp_ne (pc := 22) 27 dX7_fits_22 (by decide) ?_ ?_
      · refine v_iload_n (pc := 27) dX7_fits_27 rfl ?_
        refine v_iload (pc := 28) dX7_fits_28 rfl ?_
        refine v_iload_n (pc := 30) dX7_fits_30 rfl ?_
        refine v_callS (pc := 31) (As := [.int v4, .int v3]) (cSmallNets_pairBit l G v4 v3 M) zc_X7_pairBit tw_858 (by decide) (Nat.le_of_ble_eq_true rfl) dX7_fits_31 (fun r4 M3 => ?_)
        refine v_iand (pc := 34) dX7_fits_34 ?_
        refine v_if_eq (pc := 35) 42 dX7_fits_35 (by decide) ?_ ?_
        · refine v_iconst (pc := 42) 0 dX7_fits_42 (by decide) ?_
          exact v_sub (wSmallNets_fits_43 l G (fSmallNets_fits_3 fuel) ih v1 v2 v3 v4 0 M3) rfl
        · refine v_iconst (pc := 38) 1 dX7_fits_38 (by decide) ?_
          refine v_goto (pc := 39) 43 dX7_fits_39 (by decide) ?_
          exact v_sub (wSmallNets_fits_43 l G (fSmallNets_fits_3 fuel) ih v1 v2 v3 v4 1 M3) rfl
      · refine v_iconst (pc := 25) 0 dX7_fits_25 (by decide) ?_
        exact v_zret (pc := 26) dX7_fits_26
theorem wSmallNets_fits (l : Launch) (G : zG) (v1 : Int32) (v2 : Int32) (v3 : Int32) (M : zM) : zV eI l G zLX zRX 3 yX7_fits cX7_fits 6 (some .boolean) 0 [(0, .ref 53), (1, .int v1), (2, .int v2), (3, .int v3)] [] M (fSmallNets_fits v1 v2 v3 M) := by
  rw [fSmallNets_fits]
  refine v_iconst (pc := 0) 0 dX7_fits_0 (by decide) ?_
  refine v_istore (pc := 1) dX7_fits_1 (by decide) ?_
  exact v_sub (wSmallNets_fits_3 l G FU v1 v2 v3 0 M) rfl
theorem cSmallNets_fits (l : Launch) (G : zG) (v1 : Int32) (v2 : Int32) (v3 : Int32) (M : zM) : zC eI l G zLX zRX 3 yX7_fits cX7_fits 6 (some .boolean) [.ref 53, .int v1, .int v2, .int v3] M (fSmallNets_fits v1 v2 v3 M) := zC.of (by decide) (Nat.le_of_ble_eq_true rfl) (v_sub (wSmallNets_fits l G v1 v2 v3 M) rfl)
theorem dX7_seat_0 : decode cX7_seat 0 = .ok (.iload 5, 2) := by decide +kernel
theorem dX7_seat_2 : decode cX7_seat 2 = .ok (.iload_n 3, 1) := by decide +kernel
theorem dX7_seat_3 : decode cX7_seat 3 = .ok (.if_icmp .ge 9, 3) := by decide +kernel
theorem dX7_seat_6 : decode cX7_seat 6 = .ok (.iload 5, 2) := by decide +kernel
theorem dX7_seat_8 : decode cX7_seat 8 = .ok (.iconst 5, 1) := by decide +kernel
theorem dX7_seat_9 : decode cX7_seat 9 = .ok (.if_icmp .lt 5, 3) := by decide +kernel
theorem dX7_seat_12 : decode cX7_seat 12 = .ok (.iconst 1, 1) := by decide +kernel
theorem dX7_seat_13 : decode cX7_seat 13 = .ok (.ireturn, 1) := by decide +kernel
theorem dX7_seat_14 : decode cX7_seat 14 = .ok (.iconst 0, 1) := by decide +kernel
theorem dX7_seat_15 : decode cX7_seat 15 = .ok (.istore 6, 2) := by decide +kernel
theorem dX7_seat_17 : decode cX7_seat 17 = .ok (.iload 6, 2) := by decide +kernel
theorem dX7_seat_19 : decode cX7_seat 19 = .ok (.iload_n 1, 1) := by decide +kernel
theorem dX7_seat_20 : decode cX7_seat 20 = .ok (.if_icmp .ge 48, 3) := by decide +kernel
theorem dX7_seat_23 : decode cX7_seat 23 = .ok (.aload_n 0, 1) := by decide +kernel
theorem dX7_seat_24 : decode cX7_seat 24 = .ok (.getfield 9, 3) := by decide +kernel
theorem dX7_seat_27 : decode cX7_seat 27 = .ok (.iload 5, 2) := by decide +kernel
theorem dX7_seat_29 : decode cX7_seat 29 = .ok (.iload 6, 2) := by decide +kernel
theorem dX7_seat_31 : decode cX7_seat 31 = .ok (.iastore, 1) := by decide +kernel
theorem dX7_seat_32 : decode cX7_seat 32 = .ok (.aload_n 0, 1) := by decide +kernel
theorem dX7_seat_33 : decode cX7_seat 33 = .ok (.iload_n 2, 1) := by decide +kernel
theorem dX7_seat_34 : decode cX7_seat 34 = .ok (.iload 4, 2) := by decide +kernel
theorem dX7_seat_36 : decode cX7_seat 36 = .ok (.iload 5, 2) := by decide +kernel
theorem dX7_seat_38 : decode cX7_seat 38 = .ok (.invokevirtual 53, 3) := by decide +kernel
theorem dX7_seat_41 : decode cX7_seat 41 = .ok (.ifCond .eq 21, 3) := by decide +kernel
theorem dX7_seat_44 : decode cX7_seat 44 = .ok (.aload_n 0, 1) := by decide +kernel
theorem dX7_seat_45 : decode cX7_seat 45 = .ok (.iload_n 1, 1) := by decide +kernel
theorem dX7_seat_46 : decode cX7_seat 46 = .ok (.iload_n 2, 1) := by decide +kernel
theorem dX7_seat_47 : decode cX7_seat 47 = .ok (.iload_n 3, 1) := by decide +kernel
theorem dX7_seat_48 : decode cX7_seat 48 = .ok (.iload 4, 2) := by decide +kernel
theorem dX7_seat_50 : decode cX7_seat 50 = .ok (.iload 5, 2) := by decide +kernel
theorem dX7_seat_52 : decode cX7_seat 52 = .ok (.iconst 1, 1) := by decide +kernel
theorem dX7_seat_53 : decode cX7_seat 53 = .ok (.iadd, 1) := by decide +kernel
theorem dX7_seat_54 : decode cX7_seat 54 = .ok (.invokevirtual 49, 3) := by decide +kernel
theorem dX7_seat_57 : decode cX7_seat 57 = .ok (.ifCond .eq 5, 3) := by decide +kernel
theorem dX7_seat_60 : decode cX7_seat 60 = .ok (.iconst 1, 1) := by decide +kernel
theorem dX7_seat_61 : decode cX7_seat 61 = .ok (.ireturn, 1) := by decide +kernel
theorem dX7_seat_62 : decode cX7_seat 62 = .ok (.iinc 6 1, 3) := by decide +kernel
theorem dX7_seat_65 : decode cX7_seat 65 = .ok (.goto (-48), 3) := by decide +kernel
theorem dX7_seat_68 : decode cX7_seat 68 = .ok (.iconst 0, 1) := by decide +kernel
theorem dX7_seat_69 : decode cX7_seat 69 = .ok (.ireturn, 1) := by decide +kernel
theorem wSmallNets_seat_17 (l : Launch) (G : zG) (d : Nat) (slf : Int32 → Int32 → Int32 → Int32 → Int32 → zM → Option (Int32 × zM)) (hslf : ∀ (v1 : Int32) (v2 : Int32) (v3 : Int32) (v4 : Int32) (v5 : Int32) (M : zM), zC eI l G zLX zRX (3 + d) yX7_seat cX7_seat 7 (some .boolean) [.ref 53, .int v1, .int v2, .int v3, .int v4, .int v5] M (slf v1 v2 v3 v4 v5 M)) : ∀ (fuel : Nat) (v1 : Int32) (v2 : Int32) (v3 : Int32) (v4 : Int32) (v5 : Int32) (v6 : Int32) (M : zM), zV eI l G zLX zRX (3 + d + 1) yX7_seat cX7_seat 7 (some .boolean) 17 [(0, .ref 53), (1, .int v1), (2, .int v2), (3, .int v3), (4, .int v4), (5, .int v5), (6, .int v6)] [] M (fSmallNets_seat_17 slf fuel v1 v2 v3 v4 v5 v6 M) := by
  intro fuel
  induction fuel with
  | zero => intro v1 v2 v3 v4 v5 v6 M; exact v_none
  | succ fuel ih =>
    intro v1 v2 v3 v4 v5 v6 M
    rw [fSmallNets_seat_17]
    refine v_iload (pc := 17) dX7_seat_17 rfl ?_
    refine v_iload_n (pc := 19) dX7_seat_19 rfl ?_
    refine v_icmp_ge (pc := 20) 68 dX7_seat_20 (by decide) ?_ ?_
    · refine v_iconst (pc := 68) 0 dX7_seat_68 (by decide) ?_
      exact v_zret (pc := 69) dX7_seat_69
    · refine v_aload_n (pc := 23) dX7_seat_23 rfl ?_
      refine v_getR (pc := 24) (q := 0) zk7 lx_53 rfl rx_53_0 tw_365 dX7_seat_24 ?_
      refine v_iload (pc := 27) dX7_seat_27 rfl ?_
      refine v_iload (pc := 29) dX7_seat_29 rfl ?_
      refine v_iast (pc := 31) lx_54 dX7_seat_31 (fun M1 => ?_)
      refine v_aload_n (pc := 32) dX7_seat_32 rfl ?_
      refine v_iload_n (pc := 33) dX7_seat_33 rfl ?_
      refine v_iload (pc := 34) dX7_seat_34 rfl ?_
      refine v_iload (pc := 36) dX7_seat_36 rfl ?_
      refine v_callV (pc := 38) (As := [.int v2, .int v4, .int v5]) (cSmallNets_fits l G v2 v4 v5 M1) zc_X7_fits zk7 rfl lx_53 tw_854 (by omega) (Nat.le_of_ble_eq_true rfl) dX7_seat_38 (fun r3 M2 => ?_)
      refine v_if_eq (pc := 41) 62 dX7_seat_41 (by decide) ?_ ?_
      · refine v_iinc (pc := 62) 1 dX7_seat_62 rfl (by decide) (by decide) ?_
        refine v_goto (pc := 65) 17 dX7_seat_65 (by decide) ?_
        exact v_sub (ih v1 v2 v3 v4 v5 (v6 + 1) M2) rfl
      · refine v_aload_n (pc := 44) dX7_seat_44 rfl ?_
        refine v_iload_n (pc := 45) dX7_seat_45 rfl ?_
        refine v_iload_n (pc := 46) dX7_seat_46 rfl ?_
        refine v_iload_n (pc := 47) dX7_seat_47 rfl ?_
        refine v_iload (pc := 48) dX7_seat_48 rfl ?_
        refine v_iload (pc := 50) dX7_seat_50 rfl ?_
        refine v_iconst (pc := 52) 1 dX7_seat_52 (by decide) ?_
        refine v_iadd (pc := 53) dX7_seat_53 ?_
        refine v_callV (pc := 54) (As := [.int v1, .int v2, .int v3, .int v4, .int (v5 + 1)]) (hslf v1 v2 v3 v4 (v5 + 1) M2) zc_X7_seat zk7 rfl lx_53 tw_850 (by omega) (Nat.le_of_ble_eq_true rfl) dX7_seat_54 (fun r5 M4 => ?_)
        refine v_if_eq (pc := 57) 62 dX7_seat_57 (by decide) ?_ ?_
        · refine v_iinc (pc := 62) 1 dX7_seat_62 rfl (by decide) (by decide) ?_
          refine v_goto (pc := 65) 17 dX7_seat_65 (by decide) ?_
          exact v_sub (ih v1 v2 v3 v4 v5 (v6 + 1) M4) rfl
        · refine v_iconst (pc := 60) 1 dX7_seat_60 (by decide) ?_
          exact v_zret (pc := 61) dX7_seat_61
theorem wSmallNets_seat_b (l : Launch) (G : zG) (d : Nat) (slf : Int32 → Int32 → Int32 → Int32 → Int32 → zM → Option (Int32 × zM)) (hslf : ∀ (v1 : Int32) (v2 : Int32) (v3 : Int32) (v4 : Int32) (v5 : Int32) (M : zM), zC eI l G zLX zRX (3 + d) yX7_seat cX7_seat 7 (some .boolean) [.ref 53, .int v1, .int v2, .int v3, .int v4, .int v5] M (slf v1 v2 v3 v4 v5 M)) (v1 : Int32) (v2 : Int32) (v3 : Int32) (v4 : Int32) (v5 : Int32) (M : zM) : zV eI l G zLX zRX (3 + d + 1) yX7_seat cX7_seat 7 (some .boolean) 0 [(0, .ref 53), (1, .int v1), (2, .int v2), (3, .int v3), (4, .int v4), (5, .int v5)] [] M (fSmallNets_seat_b slf v1 v2 v3 v4 v5 M) := by
  rw [fSmallNets_seat_b]
  refine v_iload (pc := 0) dX7_seat_0 rfl ?_
  refine v_iload_n (pc := 2) dX7_seat_2 rfl ?_
  refine v_icmp_ge (pc := 3) 12 dX7_seat_3 (by decide) ?_ ?_
  · refine v_iconst (pc := 12) 1 dX7_seat_12 (by decide) ?_
    exact v_zret (pc := 13) dX7_seat_13
  · refine v_iload (pc := 6) dX7_seat_6 rfl ?_
    refine v_iconst (pc := 8) 5 dX7_seat_8 (by decide) ?_
    refine v_icmp_lt (pc := 9) 14 dX7_seat_9 (by decide) ?_ ?_
    · refine v_iconst (pc := 14) 0 dX7_seat_14 (by decide) ?_
      refine v_istore (pc := 15) dX7_seat_15 (by decide) ?_
      exact v_sub (wSmallNets_seat_17 l G d slf hslf FU v1 v2 v3 v4 v5 0 M) rfl
    · refine v_iconst (pc := 12) 1 dX7_seat_12 (by decide) ?_
      exact v_zret (pc := 13) dX7_seat_13
theorem cSmallNets_seat (l : Launch) (G : zG) : ∀ (d : Nat) (v1 : Int32) (v2 : Int32) (v3 : Int32) (v4 : Int32) (v5 : Int32) (M : zM), zC eI l G zLX zRX (3 + d) yX7_seat cX7_seat 7 (some .boolean) [.ref 53, .int v1, .int v2, .int v3, .int v4, .int v5] M (fSmallNets_seat d v1 v2 v3 v4 v5 M) := by
  intro d
  induction d with
  | zero => intro v1 v2 v3 v4 v5 M r M1 h; cases h
  | succ d ih =>
    intro v1 v2 v3 v4 v5 M
    rw [fSmallNets_seat]
    exact zC.of (by decide) (Nat.le_of_ble_eq_true rfl) (v_sub (wSmallNets_seat_b l G d (fSmallNets_seat d) ih v1 v2 v3 v4 v5 M) rfl)
theorem dX7_contains_0 : decode cX7_contains 0 = .ok (.iload_n 3, 1) := by decide +kernel
theorem dX7_contains_1 : decode cX7_contains 1 = .ok (.iload_n 1, 1) := by decide +kernel
theorem dX7_contains_2 : decode cX7_contains 2 = .ok (.if_icmp .gt 20, 3) := by decide +kernel
theorem dX7_contains_5 : decode cX7_contains 5 = .ok (.aload_n 0, 1) := by decide +kernel
theorem dX7_contains_6 : decode cX7_contains 6 = .ok (.iload_n 1, 1) := by decide +kernel
theorem dX7_contains_7 : decode cX7_contains 7 = .ok (.iload_n 2, 1) := by decide +kernel
theorem dX7_contains_8 : decode cX7_contains 8 = .ok (.iload_n 3, 1) := by decide +kernel
theorem dX7_contains_9 : decode cX7_contains 9 = .ok (.iload 4, 2) := by decide +kernel
theorem dX7_contains_11 : decode cX7_contains 11 = .ok (.iconst 0, 1) := by decide +kernel
theorem dX7_contains_12 : decode cX7_contains 12 = .ok (.invokevirtual 49, 3) := by decide +kernel
theorem dX7_contains_15 : decode cX7_contains 15 = .ok (.ifCond .eq 7, 3) := by decide +kernel
theorem dX7_contains_18 : decode cX7_contains 18 = .ok (.iconst 1, 1) := by decide +kernel
theorem dX7_contains_19 : decode cX7_contains 19 = .ok (.goto 4, 3) := by decide +kernel
theorem dX7_contains_22 : decode cX7_contains 22 = .ok (.iconst 0, 1) := by decide +kernel
theorem dX7_contains_23 : decode cX7_contains 23 = .ok (.ireturn, 1) := by decide +kernel
theorem wSmallNets_contains (l : Launch) (G : zG) (v1 : Int32) (v2 : Int32) (v3 : Int32) (v4 : Int32) (M : zM) : zV eI l G zLX zRX 12 yX7_contains cX7_contains 5 (some .boolean) 0 [(0, .ref 53), (1, .int v1), (2, .int v2), (3, .int v3), (4, .int v4)] [] M (fSmallNets_contains v1 v2 v3 v4 M) := by
  rw [fSmallNets_contains]
  refine v_iload_n (pc := 0) dX7_contains_0 rfl ?_
  refine v_iload_n (pc := 1) dX7_contains_1 rfl ?_
  refine v_icmp_gt (pc := 2) 22 dX7_contains_2 (by decide) ?_ ?_
  · refine v_iconst (pc := 22) 0 dX7_contains_22 (by decide) ?_
    exact v_zret (pc := 23) dX7_contains_23
  · refine v_aload_n (pc := 5) dX7_contains_5 rfl ?_
    refine v_iload_n (pc := 6) dX7_contains_6 rfl ?_
    refine v_iload_n (pc := 7) dX7_contains_7 rfl ?_
    refine v_iload_n (pc := 8) dX7_contains_8 rfl ?_
    refine v_iload (pc := 9) dX7_contains_9 rfl ?_
    refine v_iconst (pc := 11) 0 dX7_contains_11 (by decide) ?_
    refine v_callV (pc := 12) (As := [.int v1, .int v2, .int v3, .int v4, .int 0]) (cSmallNets_seat l G 8 v1 v2 v3 v4 0 M) zc_X7_seat zk7 rfl lx_53 tw_850 (by decide) (Nat.le_of_ble_eq_true rfl) dX7_contains_12 (fun r2 M1 => ?_)
    refine v_if_eq (pc := 15) 22 dX7_contains_15 (by decide) ?_ ?_
    · refine v_iconst (pc := 22) 0 dX7_contains_22 (by decide) ?_
      exact v_zret (pc := 23) dX7_contains_23
    · refine v_iconst (pc := 18) 1 dX7_contains_18 (by decide) ?_
      refine v_goto (pc := 19) 23 dX7_contains_19 (by decide) ?_
      exact v_zret (pc := 23) dX7_contains_23
theorem cSmallNets_contains (l : Launch) (G : zG) (v1 : Int32) (v2 : Int32) (v3 : Int32) (v4 : Int32) (M : zM) : zC eI l G zLX zRX 12 yX7_contains cX7_contains 5 (some .boolean) [.ref 53, .int v1, .int v2, .int v3, .int v4] M (fSmallNets_contains v1 v2 v3 v4 M) := zC.of (by decide) (Nat.le_of_ble_eq_true rfl) (v_sub (wSmallNets_contains l G v1 v2 v3 v4 M) rfl)
theorem dX7_pairsWithin_0 : decode cX7_pairsWithin 0 = .ok (.iconst 0, 1) := by decide +kernel
theorem dX7_pairsWithin_1 : decode cX7_pairsWithin 1 = .ok (.istore_n 1, 1) := by decide +kernel
theorem dX7_pairsWithin_2 : decode cX7_pairsWithin 2 = .ok (.iconst 1, 1) := by decide +kernel
theorem dX7_pairsWithin_3 : decode cX7_pairsWithin 3 = .ok (.istore_n 2, 1) := by decide +kernel
theorem dX7_pairsWithin_4 : decode cX7_pairsWithin 4 = .ok (.iload_n 2, 1) := by decide +kernel
theorem dX7_pairsWithin_5 : decode cX7_pairsWithin 5 = .ok (.iconst 5, 1) := by decide +kernel
theorem dX7_pairsWithin_6 : decode cX7_pairsWithin 6 = .ok (.if_icmp .ge 43, 3) := by decide +kernel
theorem dX7_pairsWithin_9 : decode cX7_pairsWithin 9 = .ok (.iconst 0, 1) := by decide +kernel
theorem dX7_pairsWithin_10 : decode cX7_pairsWithin 10 = .ok (.istore_n 3, 1) := by decide +kernel
theorem dX7_pairsWithin_11 : decode cX7_pairsWithin 11 = .ok (.iload_n 3, 1) := by decide +kernel
theorem dX7_pairsWithin_12 : decode cX7_pairsWithin 12 = .ok (.iload_n 2, 1) := by decide +kernel
theorem dX7_pairsWithin_13 : decode cX7_pairsWithin 13 = .ok (.if_icmp .ge 30, 3) := by decide +kernel
theorem dX7_pairsWithin_16 : decode cX7_pairsWithin 16 = .ok (.iload_n 0, 1) := by decide +kernel
theorem dX7_pairsWithin_17 : decode cX7_pairsWithin 17 = .ok (.iload_n 3, 1) := by decide +kernel
theorem dX7_pairsWithin_18 : decode cX7_pairsWithin 18 = .ok (.ishr, 1) := by decide +kernel
theorem dX7_pairsWithin_19 : decode cX7_pairsWithin 19 = .ok (.iload_n 0, 1) := by decide +kernel
theorem dX7_pairsWithin_20 : decode cX7_pairsWithin 20 = .ok (.iload_n 2, 1) := by decide +kernel
theorem dX7_pairsWithin_21 : decode cX7_pairsWithin 21 = .ok (.ishr, 1) := by decide +kernel
theorem dX7_pairsWithin_22 : decode cX7_pairsWithin 22 = .ok (.iand, 1) := by decide +kernel
theorem dX7_pairsWithin_23 : decode cX7_pairsWithin 23 = .ok (.iconst 1, 1) := by decide +kernel
theorem dX7_pairsWithin_24 : decode cX7_pairsWithin 24 = .ok (.iand, 1) := by decide +kernel
theorem dX7_pairsWithin_25 : decode cX7_pairsWithin 25 = .ok (.iconst 1, 1) := by decide +kernel
theorem dX7_pairsWithin_26 : decode cX7_pairsWithin 26 = .ok (.if_icmp .ne 11, 3) := by decide +kernel
theorem dX7_pairsWithin_29 : decode cX7_pairsWithin 29 = .ok (.iload_n 1, 1) := by decide +kernel
theorem dX7_pairsWithin_30 : decode cX7_pairsWithin 30 = .ok (.iload_n 3, 1) := by decide +kernel
theorem dX7_pairsWithin_31 : decode cX7_pairsWithin 31 = .ok (.iload_n 2, 1) := by decide +kernel
theorem dX7_pairsWithin_32 : decode cX7_pairsWithin 32 = .ok (.invokestatic 46, 3) := by decide +kernel
theorem dX7_pairsWithin_35 : decode cX7_pairsWithin 35 = .ok (.ior, 1) := by decide +kernel
theorem dX7_pairsWithin_36 : decode cX7_pairsWithin 36 = .ok (.istore_n 1, 1) := by decide +kernel
theorem dX7_pairsWithin_37 : decode cX7_pairsWithin 37 = .ok (.iinc 3 1, 3) := by decide +kernel
theorem dX7_pairsWithin_40 : decode cX7_pairsWithin 40 = .ok (.goto (-29), 3) := by decide +kernel
theorem dX7_pairsWithin_43 : decode cX7_pairsWithin 43 = .ok (.iinc 2 1, 3) := by decide +kernel
theorem dX7_pairsWithin_46 : decode cX7_pairsWithin 46 = .ok (.goto (-42), 3) := by decide +kernel
theorem dX7_pairsWithin_49 : decode cX7_pairsWithin 49 = .ok (.iload_n 1, 1) := by decide +kernel
theorem dX7_pairsWithin_50 : decode cX7_pairsWithin 50 = .ok (.ireturn, 1) := by decide +kernel
theorem wSmallNets_pairsWithin_11 (l : Launch) (G : zG) (k4 : Int32 → Int32 → Int32 → zM → Option (Int32 × zM)) (hk4 : ∀ (v0 : Int32) (v1 : Int32) (v2 : Int32) (M : zM), zV eI l G zLX zRX 3 yX7_pairsWithin cX7_pairsWithin 4 (some .int) 4 [(0, .int v0), (1, .int v1), (2, .int v2)] [] M (k4 v0 v1 v2 M)) : ∀ (fuel : Nat) (v0 : Int32) (v1 : Int32) (v2 : Int32) (v3 : Int32) (M : zM), zV eI l G zLX zRX 3 yX7_pairsWithin cX7_pairsWithin 4 (some .int) 11 [(0, .int v0), (1, .int v1), (2, .int v2), (3, .int v3)] [] M (fSmallNets_pairsWithin_11 k4 fuel v0 v1 v2 v3 M) := by
  intro fuel
  induction fuel with
  | zero => intro v0 v1 v2 v3 M; exact v_none
  | succ fuel ih =>
    intro v0 v1 v2 v3 M
    rw [fSmallNets_pairsWithin_11]
    refine v_iload_n (pc := 11) dX7_pairsWithin_11 rfl ?_
    refine v_iload_n (pc := 12) dX7_pairsWithin_12 rfl ?_
    refine v_icmp_ge (pc := 13) 43 dX7_pairsWithin_13 (by decide) ?_ ?_
    · refine v_iinc (pc := 43) 1 dX7_pairsWithin_43 rfl (by decide) (by decide) ?_
      refine v_goto (pc := 46) 4 dX7_pairsWithin_46 (by decide) ?_
      exact v_sub (hk4 v0 v1 (v2 + 1) M) rfl
    · refine v_iload_n (pc := 16) dX7_pairsWithin_16 rfl ?_
      refine v_iload_n (pc := 17) dX7_pairsWithin_17 rfl ?_
      refine v_ishr (pc := 18) dX7_pairsWithin_18 ?_
      refine v_iload_n (pc := 19) dX7_pairsWithin_19 rfl ?_
      refine v_iload_n (pc := 20) dX7_pairsWithin_20 rfl ?_
      refine v_ishr (pc := 21) dX7_pairsWithin_21 ?_
      refine v_iand (pc := 22) dX7_pairsWithin_22 ?_
      refine v_iconst (pc := 23) 1 dX7_pairsWithin_23 (by decide) ?_
      refine v_iand (pc := 24) dX7_pairsWithin_24 ?_
      refine v_iconst (pc := 25) 1 dX7_pairsWithin_25 (by decide) ?_
      refine v_icmp_ne (pc := 26) 37 dX7_pairsWithin_26 (by decide) ?_ ?_
      · refine v_iinc (pc := 37) 1 dX7_pairsWithin_37 rfl (by decide) (by decide) ?_
        refine v_goto (pc := 40) 11 dX7_pairsWithin_40 (by decide) ?_
        exact v_sub (ih v0 v1 v2 (v3 + 1) M) rfl
      · refine v_iload_n (pc := 29) dX7_pairsWithin_29 rfl ?_
        refine v_iload_n (pc := 30) dX7_pairsWithin_30 rfl ?_
        refine v_iload_n (pc := 31) dX7_pairsWithin_31 rfl ?_
        refine v_callS (pc := 32) (As := [.int v3, .int v2]) (cSmallNets_pairBit l G v3 v2 M) zc_X7_pairBit tw_858 (by decide) (Nat.le_of_ble_eq_true rfl) dX7_pairsWithin_32 (fun r2 M1 => ?_)
        refine v_ior (pc := 35) dX7_pairsWithin_35 ?_
        refine v_istore_nL (pc := 36) dX7_pairsWithin_36 (by decide) (fun u1_36 => ?_)
        refine v_iinc (pc := 37) 1 dX7_pairsWithin_37 rfl (by decide) (by decide) ?_
        refine v_goto (pc := 40) 11 dX7_pairsWithin_40 (by decide) ?_
        exact v_sub (ih v0 u1_36 v2 (v3 + 1) M1) rfl
theorem wSmallNets_pairsWithin_4 (l : Launch) (G : zG) : ∀ (fuel : Nat) (v0 : Int32) (v1 : Int32) (v2 : Int32) (M : zM), zV eI l G zLX zRX 3 yX7_pairsWithin cX7_pairsWithin 4 (some .int) 4 [(0, .int v0), (1, .int v1), (2, .int v2)] [] M (fSmallNets_pairsWithin_4 fuel v0 v1 v2 M) := by
  intro fuel
  induction fuel with
  | zero => intro v0 v1 v2 M; exact v_none
  | succ fuel ih =>
    intro v0 v1 v2 M
    rw [fSmallNets_pairsWithin_4]
    refine v_iload_n (pc := 4) dX7_pairsWithin_4 rfl ?_
    refine v_iconst (pc := 5) 5 dX7_pairsWithin_5 (by decide) ?_
    refine v_icmp_ge (pc := 6) 49 dX7_pairsWithin_6 (by decide) ?_ ?_
    · refine v_iload_n (pc := 49) dX7_pairsWithin_49 rfl ?_
      exact v_iret (pc := 50) dX7_pairsWithin_50
    · refine v_iconst (pc := 9) 0 dX7_pairsWithin_9 (by decide) ?_
      refine v_istore_n (pc := 10) dX7_pairsWithin_10 (by decide) ?_
      exact v_sub (wSmallNets_pairsWithin_11 l G (fSmallNets_pairsWithin_4 fuel) ih FU v0 v1 v2 0 M) rfl
theorem wSmallNets_pairsWithin (l : Launch) (G : zG) (v0 : Int32) (M : zM) : zV eI l G zLX zRX 3 yX7_pairsWithin cX7_pairsWithin 4 (some .int) 0 [(0, .int v0)] [] M (fSmallNets_pairsWithin v0 M) := by
  rw [fSmallNets_pairsWithin]
  refine v_iconst (pc := 0) 0 dX7_pairsWithin_0 (by decide) ?_
  refine v_istore_n (pc := 1) dX7_pairsWithin_1 (by decide) ?_
  refine v_iconst (pc := 2) 1 dX7_pairsWithin_2 (by decide) ?_
  refine v_istore_n (pc := 3) dX7_pairsWithin_3 (by decide) ?_
  exact v_sub (wSmallNets_pairsWithin_4 l G FU v0 0 1 M) rfl
theorem cSmallNets_pairsWithin (l : Launch) (G : zG) (v0 : Int32) (M : zM) : zC eI l G zLX zRX 3 yX7_pairsWithin cX7_pairsWithin 4 (some .int) [.int v0] M (fSmallNets_pairsWithin v0 M) := zC.of (by decide) (Nat.le_of_ble_eq_true rfl) (v_sub (wSmallNets_pairsWithin l G v0 M) rfl)
theorem dX7_chooseGroups_0 : decode cX7_chooseGroups 0 = .ok (.aload_n 0, 1) := by decide +kernel
theorem dX7_chooseGroups_1 : decode cX7_chooseGroups 1 = .ok (.iconst 0, 1) := by decide +kernel
theorem dX7_chooseGroups_2 : decode cX7_chooseGroups 2 = .ok (.putfield 18, 3) := by decide +kernel
theorem dX7_chooseGroups_5 : decode cX7_chooseGroups 5 = .ok (.iconst 0, 1) := by decide +kernel
theorem dX7_chooseGroups_6 : decode cX7_chooseGroups 6 = .ok (.istore_n 3, 1) := by decide +kernel
theorem dX7_chooseGroups_7 : decode cX7_chooseGroups 7 = .ok (.iload_n 3, 1) := by decide +kernel
theorem dX7_chooseGroups_8 : decode cX7_chooseGroups 8 = .ok (.iconst 1, 1) := by decide +kernel
theorem dX7_chooseGroups_9 : decode cX7_chooseGroups 9 = .ok (.iload_n 2, 1) := by decide +kernel
theorem dX7_chooseGroups_10 : decode cX7_chooseGroups 10 = .ok (.ishl, 1) := by decide +kernel
theorem dX7_chooseGroups_11 : decode cX7_chooseGroups 11 = .ok (.if_icmp .ge 49, 3) := by decide +kernel
theorem dX7_chooseGroups_14 : decode cX7_chooseGroups 14 = .ok (.aload_n 0, 1) := by decide +kernel
theorem dX7_chooseGroups_15 : decode cX7_chooseGroups 15 = .ok (.getfield 18, 3) := by decide +kernel
theorem dX7_chooseGroups_18 : decode cX7_chooseGroups 18 = .ok (.bipush 10, 2) := by decide +kernel
theorem dX7_chooseGroups_20 : decode cX7_chooseGroups 20 = .ok (.if_icmp .ge 40, 3) := by decide +kernel
theorem dX7_chooseGroups_23 : decode cX7_chooseGroups 23 = .ok (.iload_n 3, 1) := by decide +kernel
theorem dX7_chooseGroups_24 : decode cX7_chooseGroups 24 = .ok (.invokestatic 65, 3) := by decide +kernel
theorem dX7_chooseGroups_27 : decode cX7_chooseGroups 27 = .ok (.iload_n 1, 1) := by decide +kernel
theorem dX7_chooseGroups_28 : decode cX7_chooseGroups 28 = .ok (.if_icmp .ne 26, 3) := by decide +kernel
theorem dX7_chooseGroups_31 : decode cX7_chooseGroups 31 = .ok (.aload_n 0, 1) := by decide +kernel
theorem dX7_chooseGroups_32 : decode cX7_chooseGroups 32 = .ok (.getfield 15, 3) := by decide +kernel
theorem dX7_chooseGroups_35 : decode cX7_chooseGroups 35 = .ok (.aload_n 0, 1) := by decide +kernel
theorem dX7_chooseGroups_36 : decode cX7_chooseGroups 36 = .ok (.getfield 18, 3) := by decide +kernel
theorem dX7_chooseGroups_39 : decode cX7_chooseGroups 39 = .ok (.iload_n 3, 1) := by decide +kernel
theorem dX7_chooseGroups_40 : decode cX7_chooseGroups 40 = .ok (.invokestatic 70, 3) := by decide +kernel
theorem dX7_chooseGroups_43 : decode cX7_chooseGroups 43 = .ok (.iastore, 1) := by decide +kernel
theorem dX7_chooseGroups_44 : decode cX7_chooseGroups 44 = .ok (.aload_n 0, 1) := by decide +kernel
theorem dX7_chooseGroups_45 : decode cX7_chooseGroups 45 = .ok (.dup, 1) := by decide +kernel
theorem dX7_chooseGroups_46 : decode cX7_chooseGroups 46 = .ok (.getfield 18, 3) := by decide +kernel
theorem dX7_chooseGroups_49 : decode cX7_chooseGroups 49 = .ok (.iconst 1, 1) := by decide +kernel
theorem dX7_chooseGroups_50 : decode cX7_chooseGroups 50 = .ok (.iadd, 1) := by decide +kernel
theorem dX7_chooseGroups_51 : decode cX7_chooseGroups 51 = .ok (.putfield 18, 3) := by decide +kernel
theorem dX7_chooseGroups_54 : decode cX7_chooseGroups 54 = .ok (.iinc 3 1, 3) := by decide +kernel
theorem dX7_chooseGroups_57 : decode cX7_chooseGroups 57 = .ok (.goto (-50), 3) := by decide +kernel
theorem dX7_chooseGroups_60 : decode cX7_chooseGroups 60 = .ok (.return_, 1) := by decide +kernel
theorem wSmallNets_chooseGroups_7 (l : Launch) (G : zG) : ∀ (fuel : Nat) (v1 : Int32) (v2 : Int32) (v3 : Int32) (M : zM), zV eV l G zLX zRX 4 yX7_chooseGroups cX7_chooseGroups 4 none 7 [(0, .ref 53), (1, .int v1), (2, .int v2), (3, .int v3)] [] M (fSmallNets_chooseGroups_7 fuel v1 v2 v3 M) := by
  intro fuel
  induction fuel with
  | zero => intro v1 v2 v3 M; exact v_none
  | succ fuel ih =>
    intro v1 v2 v3 M
    rw [fSmallNets_chooseGroups_7]
    refine v_iload_n (pc := 7) dX7_chooseGroups_7 rfl ?_
    refine v_iconst (pc := 8) 1 dX7_chooseGroups_8 (by decide) ?_
    refine v_iload_n (pc := 9) dX7_chooseGroups_9 rfl ?_
    refine v_ishl (pc := 10) dX7_chooseGroups_10 ?_
    refine v_icmp_ge (pc := 11) 60 dX7_chooseGroups_11 (by decide) ?_ ?_
    · exact v_vret (pc := 60) dX7_chooseGroups_60
    · refine v_aload_n (pc := 14) dX7_chooseGroups_14 rfl ?_
      refine v_getI (pc := 15) (q := 2) zk7 lx_53 rfl tw_367 dX7_chooseGroups_15 ?_
      refine v_bipush (pc := 18) 10 dX7_chooseGroups_18 (by decide) ?_
      refine v_icmp_ge (pc := 20) 60 dX7_chooseGroups_20 (by decide) ?_ ?_
      · exact v_vret (pc := 60) dX7_chooseGroups_60
      · refine v_iload_n (pc := 23) dX7_chooseGroups_23 rfl ?_
        refine v_callS (pc := 24) (As := [.int v3]) (cJ6_bitCount l G v3 M) zc_J6_bitCount_0f7a4 tw_875 (by decide) (Nat.le_of_ble_eq_true rfl) dX7_chooseGroups_24 (fun r2 M1 => ?_)
        refine v_iload_n (pc := 27) dX7_chooseGroups_27 rfl ?_
        refine v_icmp_ne (pc := 28) 54 dX7_chooseGroups_28 (by decide) ?_ ?_
        · refine v_iinc (pc := 54) 1 dX7_chooseGroups_54 rfl (by decide) (by decide) ?_
          refine v_goto (pc := 57) 7 dX7_chooseGroups_57 (by decide) ?_
          exact v_sub (ih v1 v2 (v3 + 1) M1) rfl
        · refine v_aload_n (pc := 31) dX7_chooseGroups_31 rfl ?_
          refine v_getR (pc := 32) (q := 1) zk7 lx_53 rfl rx_53_1 tw_366 dX7_chooseGroups_32 ?_
          refine v_aload_n (pc := 35) dX7_chooseGroups_35 rfl ?_
          refine v_getI (pc := 36) (q := 2) zk7 lx_53 rfl tw_367 dX7_chooseGroups_36 ?_
          refine v_iload_n (pc := 39) dX7_chooseGroups_39 rfl ?_
          refine v_callS (pc := 40) (As := [.int v3]) (cSmallNets_pairsWithin l G v3 M1) zc_X7_pairsWithin tw_876 (by decide) (Nat.le_of_ble_eq_true rfl) dX7_chooseGroups_40 (fun r4 M3 => ?_)
          refine v_iast (pc := 43) lx_55 dX7_chooseGroups_43 (fun M5 => ?_)
          refine v_aload_n (pc := 44) dX7_chooseGroups_44 rfl ?_
          refine v_dup (pc := 45) dX7_chooseGroups_45 rfl ?_
          refine v_getI (pc := 46) (q := 2) zk7 lx_53 rfl tw_367 dX7_chooseGroups_46 ?_
          refine v_iconst (pc := 49) 1 dX7_chooseGroups_49 (by decide) ?_
          refine v_iadd (pc := 50) dX7_chooseGroups_50 ?_
          refine v_putI (pc := 51) (q := 2) zk7 lx_53 rfl tw_367 rfl rfl rfl dX7_chooseGroups_51 (fun M6 => ?_)
          refine v_iinc (pc := 54) 1 dX7_chooseGroups_54 rfl (by decide) (by decide) ?_
          refine v_goto (pc := 57) 7 dX7_chooseGroups_57 (by decide) ?_
          exact v_sub (ih v1 v2 (v3 + 1) M6) rfl
theorem wSmallNets_chooseGroups (l : Launch) (G : zG) (v1 : Int32) (v2 : Int32) (M : zM) : zV eV l G zLX zRX 4 yX7_chooseGroups cX7_chooseGroups 4 none 0 [(0, .ref 53), (1, .int v1), (2, .int v2)] [] M (fSmallNets_chooseGroups v1 v2 M) := by
  rw [fSmallNets_chooseGroups]
  refine v_aload_n (pc := 0) dX7_chooseGroups_0 rfl ?_
  refine v_iconst (pc := 1) 0 dX7_chooseGroups_1 (by decide) ?_
  refine v_putI (pc := 2) (q := 2) zk7 lx_53 rfl tw_367 rfl rfl rfl dX7_chooseGroups_2 (fun M1 => ?_)
  refine v_iconst (pc := 5) 0 dX7_chooseGroups_5 (by decide) ?_
  refine v_istore_n (pc := 6) dX7_chooseGroups_6 (by decide) ?_
  exact v_sub (wSmallNets_chooseGroups_7 l G FU v1 v2 0 M1) rfl
theorem cSmallNets_chooseGroups (l : Launch) (G : zG) (v1 : Int32) (v2 : Int32) (M : zM) : zC eV l G zLX zRX 4 yX7_chooseGroups cX7_chooseGroups 4 none [.ref 53, .int v1, .int v2] M (fSmallNets_chooseGroups v1 v2 M) := zC.of (by decide) (Nat.le_of_ble_eq_true rfl) (v_sub (wSmallNets_chooseGroups l G v1 v2 M) rfl)
theorem dX7_isUniversal_0 : decode cX7_isUniversal 0 = .ok (.iconst 0, 1) := by decide +kernel
theorem dX7_isUniversal_1 : decode cX7_isUniversal 1 = .ok (.istore_n 3, 1) := by decide +kernel
theorem dX7_isUniversal_2 : decode cX7_isUniversal 2 = .ok (.iconst 0, 1) := by decide +kernel
theorem dX7_isUniversal_3 : decode cX7_isUniversal 3 = .ok (.istore 4, 2) := by decide +kernel
theorem dX7_isUniversal_5 : decode cX7_isUniversal 5 = .ok (.iload 4, 2) := by decide +kernel
theorem dX7_isUniversal_7 : decode cX7_isUniversal 7 = .ok (.aload_n 0, 1) := by decide +kernel
theorem dX7_isUniversal_8 : decode cX7_isUniversal 8 = .ok (.getfield 18, 3) := by decide +kernel
theorem dX7_isUniversal_11 : decode cX7_isUniversal 11 = .ok (.if_icmp .ge 26, 3) := by decide +kernel
theorem dX7_isUniversal_14 : decode cX7_isUniversal 14 = .ok (.iload_n 3, 1) := by decide +kernel
theorem dX7_isUniversal_15 : decode cX7_isUniversal 15 = .ok (.iconst 1, 1) := by decide +kernel
theorem dX7_isUniversal_16 : decode cX7_isUniversal 16 = .ok (.iload_n 2, 1) := by decide +kernel
theorem dX7_isUniversal_17 : decode cX7_isUniversal 17 = .ok (.aload_n 0, 1) := by decide +kernel
theorem dX7_isUniversal_18 : decode cX7_isUniversal 18 = .ok (.getfield 15, 3) := by decide +kernel
theorem dX7_isUniversal_21 : decode cX7_isUniversal 21 = .ok (.iload 4, 2) := by decide +kernel
theorem dX7_isUniversal_23 : decode cX7_isUniversal 23 = .ok (.iaload, 1) := by decide +kernel
theorem dX7_isUniversal_24 : decode cX7_isUniversal 24 = .ok (.iand, 1) := by decide +kernel
theorem dX7_isUniversal_25 : decode cX7_isUniversal 25 = .ok (.invokestatic 65, 3) := by decide +kernel
theorem dX7_isUniversal_28 : decode cX7_isUniversal 28 = .ok (.ishl, 1) := by decide +kernel
theorem dX7_isUniversal_29 : decode cX7_isUniversal 29 = .ok (.ior, 1) := by decide +kernel
theorem dX7_isUniversal_30 : decode cX7_isUniversal 30 = .ok (.istore_n 3, 1) := by decide +kernel
theorem dX7_isUniversal_31 : decode cX7_isUniversal 31 = .ok (.iinc 4 1, 3) := by decide +kernel
theorem dX7_isUniversal_34 : decode cX7_isUniversal 34 = .ok (.goto (-29), 3) := by decide +kernel
theorem dX7_isUniversal_37 : decode cX7_isUniversal 37 = .ok (.iload_n 3, 1) := by decide +kernel
theorem dX7_isUniversal_38 : decode cX7_isUniversal 38 = .ok (.iconst 1, 1) := by decide +kernel
theorem dX7_isUniversal_39 : decode cX7_isUniversal 39 = .ok (.iload_n 1, 1) := by decide +kernel
theorem dX7_isUniversal_40 : decode cX7_isUniversal 40 = .ok (.invokestatic 22, 3) := by decide +kernel
theorem dX7_isUniversal_43 : decode cX7_isUniversal 43 = .ok (.iconst 1, 1) := by decide +kernel
theorem dX7_isUniversal_44 : decode cX7_isUniversal 44 = .ok (.iadd, 1) := by decide +kernel
theorem dX7_isUniversal_45 : decode cX7_isUniversal 45 = .ok (.ishl, 1) := by decide +kernel
theorem dX7_isUniversal_46 : decode cX7_isUniversal 46 = .ok (.iconst 1, 1) := by decide +kernel
theorem dX7_isUniversal_47 : decode cX7_isUniversal 47 = .ok (.isub, 1) := by decide +kernel
theorem dX7_isUniversal_48 : decode cX7_isUniversal 48 = .ok (.if_icmp .ne 7, 3) := by decide +kernel
theorem dX7_isUniversal_51 : decode cX7_isUniversal 51 = .ok (.iconst 1, 1) := by decide +kernel
theorem dX7_isUniversal_52 : decode cX7_isUniversal 52 = .ok (.goto 4, 3) := by decide +kernel
theorem dX7_isUniversal_55 : decode cX7_isUniversal 55 = .ok (.iconst 0, 1) := by decide +kernel
theorem dX7_isUniversal_56 : decode cX7_isUniversal 56 = .ok (.ireturn, 1) := by decide +kernel
theorem wSmallNets_isUniversal_5 (l : Launch) (G : zG) : ∀ (fuel : Nat) (v1 : Int32) (v2 : Int32) (v3 : Int32) (v4 : Int32) (M : zM), zV eI l G zLX zRX 2 yX7_isUniversal cX7_isUniversal 5 (some .boolean) 5 [(0, .ref 53), (1, .int v1), (2, .int v2), (3, .int v3), (4, .int v4)] [] M (fSmallNets_isUniversal_5 fuel v1 v2 v3 v4 M) := by
  intro fuel
  induction fuel with
  | zero => intro v1 v2 v3 v4 M; exact v_none
  | succ fuel ih =>
    intro v1 v2 v3 v4 M
    rw [fSmallNets_isUniversal_5]
    refine v_iload (pc := 5) dX7_isUniversal_5 rfl ?_
    refine v_aload_n (pc := 7) dX7_isUniversal_7 rfl ?_
    refine v_getI (pc := 8) (q := 2) zk7 lx_53 rfl tw_367 dX7_isUniversal_8 ?_
    refine v_icmp_ge (pc := 11) 37 dX7_isUniversal_11 (by decide) ?_ ?_
    · refine v_iload_n (pc := 37) dX7_isUniversal_37 rfl ?_
      refine v_iconst (pc := 38) 1 dX7_isUniversal_38 (by decide) ?_
      refine v_iload_n (pc := 39) dX7_isUniversal_39 rfl ?_
      refine v_callS (pc := 40) (As := [.int v1]) (cSmallNets_pairs l G v1 M) zc_X7_pairs tw_843 (by decide) (Nat.le_of_ble_eq_true rfl) dX7_isUniversal_40 (fun r2 M1 => ?_)
      refine v_iconst (pc := 43) 1 dX7_isUniversal_43 (by decide) ?_
      refine v_iadd (pc := 44) dX7_isUniversal_44 ?_
      refine v_ishl (pc := 45) dX7_isUniversal_45 ?_
      refine v_iconst (pc := 46) 1 dX7_isUniversal_46 (by decide) ?_
      refine v_isub (pc := 47) dX7_isUniversal_47 ?_
      refine v_icmp_ne (pc := 48) 55 dX7_isUniversal_48 (by decide) ?_ ?_
      · refine v_iconst (pc := 55) 0 dX7_isUniversal_55 (by decide) ?_
        exact v_zret (pc := 56) dX7_isUniversal_56
      · refine v_iconst (pc := 51) 1 dX7_isUniversal_51 (by decide) ?_
        refine v_goto (pc := 52) 56 dX7_isUniversal_52 (by decide) ?_
        exact v_zret (pc := 56) dX7_isUniversal_56
    · refine v_iload_n (pc := 14) dX7_isUniversal_14 rfl ?_
      refine v_iconst (pc := 15) 1 dX7_isUniversal_15 (by decide) ?_
      refine v_iload_n (pc := 16) dX7_isUniversal_16 rfl ?_
      refine v_aload_n (pc := 17) dX7_isUniversal_17 rfl ?_
      refine v_getR (pc := 18) (q := 1) zk7 lx_53 rfl rx_53_1 tw_366 dX7_isUniversal_18 ?_
      refine v_iload (pc := 21) dX7_isUniversal_21 rfl ?_
      refine v_iald (pc := 23) lx_55 dX7_isUniversal_23 (fun x3 => ?_)
      refine v_iand (pc := 24) dX7_isUniversal_24 ?_
      refine v_callS (pc := 25) (As := [.int (v2 &&& x3)]) (cJ6_bitCount l G (v2 &&& x3) M) zc_J6_bitCount_0f7a4 tw_875 (by decide) (Nat.le_of_ble_eq_true rfl) dX7_isUniversal_25 (fun r5 M4 => ?_)
      refine v_ishl (pc := 28) dX7_isUniversal_28 ?_
      refine v_ior (pc := 29) dX7_isUniversal_29 ?_
      refine v_istore_nL (pc := 30) dX7_isUniversal_30 (by decide) (fun u3_30 => ?_)
      refine v_iinc (pc := 31) 1 dX7_isUniversal_31 rfl (by decide) (by decide) ?_
      refine v_goto (pc := 34) 5 dX7_isUniversal_34 (by decide) ?_
      exact v_sub (ih v1 v2 u3_30 (v4 + 1) M4) rfl
theorem wSmallNets_isUniversal (l : Launch) (G : zG) (v1 : Int32) (v2 : Int32) (M : zM) : zV eI l G zLX zRX 2 yX7_isUniversal cX7_isUniversal 5 (some .boolean) 0 [(0, .ref 53), (1, .int v1), (2, .int v2)] [] M (fSmallNets_isUniversal v1 v2 M) := by
  rw [fSmallNets_isUniversal]
  refine v_iconst (pc := 0) 0 dX7_isUniversal_0 (by decide) ?_
  refine v_istore_n (pc := 1) dX7_isUniversal_1 (by decide) ?_
  refine v_iconst (pc := 2) 0 dX7_isUniversal_2 (by decide) ?_
  refine v_istore (pc := 3) dX7_isUniversal_3 (by decide) ?_
  exact v_sub (wSmallNets_isUniversal_5 l G FU v1 v2 0 0 M) rfl
theorem cSmallNets_isUniversal (l : Launch) (G : zG) (v1 : Int32) (v2 : Int32) (M : zM) : zC eI l G zLX zRX 2 yX7_isUniversal cX7_isUniversal 5 (some .boolean) [.ref 53, .int v1, .int v2] M (fSmallNets_isUniversal v1 v2 M) := zC.of (by decide) (Nat.le_of_ble_eq_true rfl) (v_sub (wSmallNets_isUniversal l G v1 v2 M) rfl)
theorem dX7_countUniversal_0 : decode cX7_countUniversal 0 = .ok (.aload_n 0, 1) := by decide +kernel
theorem dX7_countUniversal_1 : decode cX7_countUniversal 1 = .ok (.iload_n 1, 1) := by decide +kernel
theorem dX7_countUniversal_2 : decode cX7_countUniversal 2 = .ok (.iload_n 2, 1) := by decide +kernel
theorem dX7_countUniversal_3 : decode cX7_countUniversal 3 = .ok (.invokevirtual 57, 3) := by decide +kernel
theorem dX7_countUniversal_6 : decode cX7_countUniversal 6 = .ok (.iconst 0, 1) := by decide +kernel
theorem dX7_countUniversal_7 : decode cX7_countUniversal 7 = .ok (.istore_n 3, 1) := by decide +kernel
theorem dX7_countUniversal_8 : decode cX7_countUniversal 8 = .ok (.iconst 0, 1) := by decide +kernel
theorem dX7_countUniversal_9 : decode cX7_countUniversal 9 = .ok (.istore 4, 2) := by decide +kernel
theorem dX7_countUniversal_11 : decode cX7_countUniversal 11 = .ok (.iload 4, 2) := by decide +kernel
theorem dX7_countUniversal_13 : decode cX7_countUniversal 13 = .ok (.iconst 1, 1) := by decide +kernel
theorem dX7_countUniversal_14 : decode cX7_countUniversal 14 = .ok (.iload_n 2, 1) := by decide +kernel
theorem dX7_countUniversal_15 : decode cX7_countUniversal 15 = .ok (.invokestatic 22, 3) := by decide +kernel
theorem dX7_countUniversal_18 : decode cX7_countUniversal 18 = .ok (.ishl, 1) := by decide +kernel
theorem dX7_countUniversal_19 : decode cX7_countUniversal 19 = .ok (.if_icmp .ge 27, 3) := by decide +kernel
theorem dX7_countUniversal_22 : decode cX7_countUniversal 22 = .ok (.iload_n 3, 1) := by decide +kernel
theorem dX7_countUniversal_23 : decode cX7_countUniversal 23 = .ok (.aload_n 0, 1) := by decide +kernel
theorem dX7_countUniversal_24 : decode cX7_countUniversal 24 = .ok (.iload_n 1, 1) := by decide +kernel
theorem dX7_countUniversal_25 : decode cX7_countUniversal 25 = .ok (.iload 4, 2) := by decide +kernel
theorem dX7_countUniversal_27 : decode cX7_countUniversal 27 = .ok (.invokevirtual 61, 3) := by decide +kernel
theorem dX7_countUniversal_30 : decode cX7_countUniversal 30 = .ok (.ifCond .eq 7, 3) := by decide +kernel
theorem dX7_countUniversal_33 : decode cX7_countUniversal 33 = .ok (.iconst 1, 1) := by decide +kernel
theorem dX7_countUniversal_34 : decode cX7_countUniversal 34 = .ok (.goto 4, 3) := by decide +kernel
theorem dX7_countUniversal_37 : decode cX7_countUniversal 37 = .ok (.iconst 0, 1) := by decide +kernel
theorem dX7_countUniversal_38 : decode cX7_countUniversal 38 = .ok (.iadd, 1) := by decide +kernel
theorem dX7_countUniversal_39 : decode cX7_countUniversal 39 = .ok (.istore_n 3, 1) := by decide +kernel
theorem dX7_countUniversal_40 : decode cX7_countUniversal 40 = .ok (.iinc 4 1, 3) := by decide +kernel
theorem dX7_countUniversal_43 : decode cX7_countUniversal 43 = .ok (.goto (-32), 3) := by decide +kernel
theorem dX7_countUniversal_46 : decode cX7_countUniversal 46 = .ok (.iload_n 3, 1) := by decide +kernel
theorem dX7_countUniversal_47 : decode cX7_countUniversal 47 = .ok (.ireturn, 1) := by decide +kernel
theorem wSmallNets_countUniversal_11 (l : Launch) (G : zG) : ∀ (fuel : Nat) (v1 : Int32) (v2 : Int32) (v3 : Int32) (v4 : Int32) (M : zM), zV eI l G zLX zRX 5 yX7_countUniversal cX7_countUniversal 5 (some .int) 11 [(0, .ref 53), (1, .int v1), (2, .int v2), (3, .int v3), (4, .int v4)] [] M (fSmallNets_countUniversal_11 fuel v1 v2 v3 v4 M) := by
  intro fuel
  induction fuel with
  | zero => intro v1 v2 v3 v4 M; exact v_none
  | succ fuel ih =>
    intro v1 v2 v3 v4 M
    rw [fSmallNets_countUniversal_11]
    refine v_iload (pc := 11) dX7_countUniversal_11 rfl ?_
    refine v_iconst (pc := 13) 1 dX7_countUniversal_13 (by decide) ?_
    refine v_iload_n (pc := 14) dX7_countUniversal_14 rfl ?_
    refine v_callS (pc := 15) (As := [.int v2]) (cSmallNets_pairs l G v2 M) zc_X7_pairs tw_843 (by decide) (Nat.le_of_ble_eq_true rfl) dX7_countUniversal_15 (fun r2 M1 => ?_)
    refine v_ishl (pc := 18) dX7_countUniversal_18 ?_
    refine v_icmp_ge (pc := 19) 46 dX7_countUniversal_19 (by decide) ?_ ?_
    · refine v_iload_n (pc := 46) dX7_countUniversal_46 rfl ?_
      exact v_iret (pc := 47) dX7_countUniversal_47
    · refine v_iload_n (pc := 22) dX7_countUniversal_22 rfl ?_
      refine v_aload_n (pc := 23) dX7_countUniversal_23 rfl ?_
      refine v_iload_n (pc := 24) dX7_countUniversal_24 rfl ?_
      refine v_iload (pc := 25) dX7_countUniversal_25 rfl ?_
      refine v_callV (pc := 27) (As := [.int v1, .int v4]) (cSmallNets_isUniversal l G v1 v4 M1) zc_X7_isUniversal zk7 rfl lx_53 tw_879 (by decide) (Nat.le_of_ble_eq_true rfl) dX7_countUniversal_27 (fun r4 M3 => ?_)
      refine v_if_eq (pc := 30) 37 dX7_countUniversal_30 (by decide) ?_ ?_
      · refine v_iconst (pc := 37) 0 dX7_countUniversal_37 (by decide) ?_
        refine v_iadd (pc := 38) dX7_countUniversal_38 ?_
        refine v_istore_nL (pc := 39) dX7_countUniversal_39 (by decide) (fun u3_39 => ?_)
        refine v_iinc (pc := 40) 1 dX7_countUniversal_40 rfl (by decide) (by decide) ?_
        refine v_goto (pc := 43) 11 dX7_countUniversal_43 (by decide) ?_
        exact v_sub (ih v1 v2 u3_39 (v4 + 1) M3) rfl
      · refine v_iconst (pc := 33) 1 dX7_countUniversal_33 (by decide) ?_
        refine v_goto (pc := 34) 38 dX7_countUniversal_34 (by decide) ?_
        refine v_iadd (pc := 38) dX7_countUniversal_38 ?_
        refine v_istore_nL (pc := 39) dX7_countUniversal_39 (by decide) (fun u3_39 => ?_)
        refine v_iinc (pc := 40) 1 dX7_countUniversal_40 rfl (by decide) (by decide) ?_
        refine v_goto (pc := 43) 11 dX7_countUniversal_43 (by decide) ?_
        exact v_sub (ih v1 v2 u3_39 (v4 + 1) M3) rfl
theorem wSmallNets_countUniversal (l : Launch) (G : zG) (v1 : Int32) (v2 : Int32) (M : zM) : zV eI l G zLX zRX 5 yX7_countUniversal cX7_countUniversal 5 (some .int) 0 [(0, .ref 53), (1, .int v1), (2, .int v2)] [] M (fSmallNets_countUniversal v1 v2 M) := by
  rw [fSmallNets_countUniversal]
  refine v_aload_n (pc := 0) dX7_countUniversal_0 rfl ?_
  refine v_iload_n (pc := 1) dX7_countUniversal_1 rfl ?_
  refine v_iload_n (pc := 2) dX7_countUniversal_2 rfl ?_
  refine v_callV (pc := 3) (As := [.int v1, .int v2]) (cSmallNets_chooseGroups l G v1 v2 M) zc_X7_chooseGroups zk7 rfl lx_53 tw_871 (by decide) (Nat.le_of_ble_eq_true rfl) dX7_countUniversal_3 (fun _ M1 => ?_)
  skip
  refine v_iconst (pc := 6) 0 dX7_countUniversal_6 (by decide) ?_
  refine v_istore_n (pc := 7) dX7_countUniversal_7 (by decide) ?_
  refine v_iconst (pc := 8) 0 dX7_countUniversal_8 (by decide) ?_
  refine v_istore (pc := 9) dX7_countUniversal_9 (by decide) ?_
  exact v_sub (wSmallNets_countUniversal_11 l G FU v1 v2 0 0 M1) rfl
theorem cSmallNets_countUniversal (l : Launch) (G : zG) (v1 : Int32) (v2 : Int32) (M : zM) : zC eI l G zLX zRX 5 yX7_countUniversal cX7_countUniversal 5 (some .int) [.ref 53, .int v1, .int v2] M (fSmallNets_countUniversal v1 v2 M) := zC.of (by decide) (Nat.le_of_ble_eq_true rfl) (v_sub (wSmallNets_countUniversal l G v1 v2 M) rfl)
theorem dX7_leastUniversal_0 : decode cX7_leastUniversal 0 = .ok (.aload_n 0, 1) := by decide +kernel
theorem dX7_leastUniversal_1 : decode cX7_leastUniversal 1 = .ok (.iload_n 1, 1) := by decide +kernel
theorem dX7_leastUniversal_2 : decode cX7_leastUniversal 2 = .ok (.iload_n 2, 1) := by decide +kernel
theorem dX7_leastUniversal_3 : decode cX7_leastUniversal 3 = .ok (.invokevirtual 57, 3) := by decide +kernel
theorem dX7_leastUniversal_6 : decode cX7_leastUniversal 6 = .ok (.iconst 0, 1) := by decide +kernel
theorem dX7_leastUniversal_7 : decode cX7_leastUniversal 7 = .ok (.istore_n 3, 1) := by decide +kernel
theorem dX7_leastUniversal_8 : decode cX7_leastUniversal 8 = .ok (.iload_n 3, 1) := by decide +kernel
theorem dX7_leastUniversal_9 : decode cX7_leastUniversal 9 = .ok (.iconst 1, 1) := by decide +kernel
theorem dX7_leastUniversal_10 : decode cX7_leastUniversal 10 = .ok (.iload_n 2, 1) := by decide +kernel
theorem dX7_leastUniversal_11 : decode cX7_leastUniversal 11 = .ok (.invokestatic 22, 3) := by decide +kernel
theorem dX7_leastUniversal_14 : decode cX7_leastUniversal 14 = .ok (.ishl, 1) := by decide +kernel
theorem dX7_leastUniversal_15 : decode cX7_leastUniversal 15 = .ok (.if_icmp .ge 20, 3) := by decide +kernel
theorem dX7_leastUniversal_18 : decode cX7_leastUniversal 18 = .ok (.aload_n 0, 1) := by decide +kernel
theorem dX7_leastUniversal_19 : decode cX7_leastUniversal 19 = .ok (.iload_n 1, 1) := by decide +kernel
theorem dX7_leastUniversal_20 : decode cX7_leastUniversal 20 = .ok (.iload_n 3, 1) := by decide +kernel
theorem dX7_leastUniversal_21 : decode cX7_leastUniversal 21 = .ok (.invokevirtual 61, 3) := by decide +kernel
theorem dX7_leastUniversal_24 : decode cX7_leastUniversal 24 = .ok (.ifCond .eq 5, 3) := by decide +kernel
theorem dX7_leastUniversal_27 : decode cX7_leastUniversal 27 = .ok (.iload_n 3, 1) := by decide +kernel
theorem dX7_leastUniversal_28 : decode cX7_leastUniversal 28 = .ok (.ireturn, 1) := by decide +kernel
theorem dX7_leastUniversal_29 : decode cX7_leastUniversal 29 = .ok (.iinc 3 1, 3) := by decide +kernel
theorem dX7_leastUniversal_32 : decode cX7_leastUniversal 32 = .ok (.goto (-24), 3) := by decide +kernel
theorem dX7_leastUniversal_35 : decode cX7_leastUniversal 35 = .ok (.iconst (-1), 1) := by decide +kernel
theorem dX7_leastUniversal_36 : decode cX7_leastUniversal 36 = .ok (.ireturn, 1) := by decide +kernel
theorem wSmallNets_leastUniversal_8 (l : Launch) (G : zG) : ∀ (fuel : Nat) (v1 : Int32) (v2 : Int32) (v3 : Int32) (M : zM), zV eI l G zLX zRX 5 yX7_leastUniversal cX7_leastUniversal 4 (some .int) 8 [(0, .ref 53), (1, .int v1), (2, .int v2), (3, .int v3)] [] M (fSmallNets_leastUniversal_8 fuel v1 v2 v3 M) := by
  intro fuel
  induction fuel with
  | zero => intro v1 v2 v3 M; exact v_none
  | succ fuel ih =>
    intro v1 v2 v3 M
    rw [fSmallNets_leastUniversal_8]
    refine v_iload_n (pc := 8) dX7_leastUniversal_8 rfl ?_
    refine v_iconst (pc := 9) 1 dX7_leastUniversal_9 (by decide) ?_
    refine v_iload_n (pc := 10) dX7_leastUniversal_10 rfl ?_
    refine v_callS (pc := 11) (As := [.int v2]) (cSmallNets_pairs l G v2 M) zc_X7_pairs tw_843 (by decide) (Nat.le_of_ble_eq_true rfl) dX7_leastUniversal_11 (fun r2 M1 => ?_)
    refine v_ishl (pc := 14) dX7_leastUniversal_14 ?_
    refine v_icmp_ge (pc := 15) 35 dX7_leastUniversal_15 (by decide) ?_ ?_
    · refine v_iconst (pc := 35) (-1) dX7_leastUniversal_35 (by decide) ?_
      exact v_iret (pc := 36) dX7_leastUniversal_36
    · refine v_aload_n (pc := 18) dX7_leastUniversal_18 rfl ?_
      refine v_iload_n (pc := 19) dX7_leastUniversal_19 rfl ?_
      refine v_iload_n (pc := 20) dX7_leastUniversal_20 rfl ?_
      refine v_callV (pc := 21) (As := [.int v1, .int v3]) (cSmallNets_isUniversal l G v1 v3 M1) zc_X7_isUniversal zk7 rfl lx_53 tw_879 (by decide) (Nat.le_of_ble_eq_true rfl) dX7_leastUniversal_21 (fun r4 M3 => ?_)
      refine v_if_eq (pc := 24) 29 dX7_leastUniversal_24 (by decide) ?_ ?_
      · refine v_iinc (pc := 29) 1 dX7_leastUniversal_29 rfl (by decide) (by decide) ?_
        refine v_goto (pc := 32) 8 dX7_leastUniversal_32 (by decide) ?_
        exact v_sub (ih v1 v2 (v3 + 1) M3) rfl
      · refine v_iload_n (pc := 27) dX7_leastUniversal_27 rfl ?_
        exact v_iret (pc := 28) dX7_leastUniversal_28
theorem wSmallNets_leastUniversal (l : Launch) (G : zG) (v1 : Int32) (v2 : Int32) (M : zM) : zV eI l G zLX zRX 5 yX7_leastUniversal cX7_leastUniversal 4 (some .int) 0 [(0, .ref 53), (1, .int v1), (2, .int v2)] [] M (fSmallNets_leastUniversal v1 v2 M) := by
  rw [fSmallNets_leastUniversal]
  refine v_aload_n (pc := 0) dX7_leastUniversal_0 rfl ?_
  refine v_iload_n (pc := 1) dX7_leastUniversal_1 rfl ?_
  refine v_iload_n (pc := 2) dX7_leastUniversal_2 rfl ?_
  refine v_callV (pc := 3) (As := [.int v1, .int v2]) (cSmallNets_chooseGroups l G v1 v2 M) zc_X7_chooseGroups zk7 rfl lx_53 tw_871 (by decide) (Nat.le_of_ble_eq_true rfl) dX7_leastUniversal_3 (fun _ M1 => ?_)
  skip
  refine v_iconst (pc := 6) 0 dX7_leastUniversal_6 (by decide) ?_
  refine v_istore_n (pc := 7) dX7_leastUniversal_7 (by decide) ?_
  exact v_sub (wSmallNets_leastUniversal_8 l G FU v1 v2 0 M1) rfl
theorem cSmallNets_leastUniversal (l : Launch) (G : zG) (v1 : Int32) (v2 : Int32) (M : zM) : zC eI l G zLX zRX 5 yX7_leastUniversal cX7_leastUniversal 4 (some .int) [.ref 53, .int v1, .int v2] M (fSmallNets_leastUniversal v1 v2 M) := zC.of (by decide) (Nat.le_of_ble_eq_true rfl) (v_sub (wSmallNets_leastUniversal l G v1 v2 M) rfl)
