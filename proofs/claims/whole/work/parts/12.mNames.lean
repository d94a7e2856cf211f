theorem dX2_begin_0 : decode cX2_begin 0 = .ok (.aload_n 0, 1) := by decide +kernel
theorem dX2_begin_1 : decode cX2_begin 1 = .ok (.iload_n 1, 1) := by decide +kernel
theorem dX2_begin_2 : decode cX2_begin 2 = .ok (.putfield 9, 3) := by decide +kernel
theorem dX2_begin_5 : decode cX2_begin 5 = .ok (.aload_n 0, 1) := by decide +kernel
theorem dX2_begin_6 : decode cX2_begin 6 = .ok (.getfield 15, 3) := by decide +kernel
theorem dX2_begin_9 : decode cX2_begin 9 = .ok (.iconst 0, 1) := by decide +kernel
theorem dX2_begin_10 : decode cX2_begin 10 = .ok (.invokestatic 28, 3) := by decide +kernel
theorem dX2_begin_13 : decode cX2_begin 13 = .ok (.return_, 1) := by decide +kernel
theorem wNames_begin (l : Launch) (G : zG) (c0 : Nat) (hc0 : zN c0) (v1 : Int32) (M : zM) : zV eV l G zLX zRX 2 yX2_begin cX2_begin 2 none 0 [(0, .ref c0), (1, .int v1)] [] M (fNames_begin c0 v1 M) := by
  rw [fNames_begin]
  refine v_aload_n (pc := 0) dX2_begin_0 rfl ?_
  refine v_iload_n (pc := 1) dX2_begin_1 rfl ?_
  refine v_putI (pc := 2) (q := 2) zk2 hc0.1 rfl tw_232 rfl rfl rfl dX2_begin_2 (fun M1 => ?_)
  refine v_aload_n (pc := 5) dX2_begin_5 rfl ?_
  refine v_getR (pc := 6) (q := 3) zk2 hc0.1 rfl hc0.2.2.2.1 tw_234 dX2_begin_6 ?_
  refine v_iconst (pc := 9) 0 dX2_begin_9 (by decide) ?_
  refine v_callS (pc := 10) (As := [.ref (c0 + 1), .int 0]) (cJ7_fill l G (c0 + 1) 12 hc0.2.1 0 M1) zc_J7_fill_53178 tw_585 (by decide) (Nat.le_of_ble_eq_true rfl) dX2_begin_10 (fun _ M2 => ?_)
  skip
  exact v_vret (pc := 13) dX2_begin_13
theorem cNames_begin (l : Launch) (G : zG) (c0 : Nat) (hc0 : zN c0) (v1 : Int32) (M : zM) : zC eV l G zLX zRX 2 yX2_begin cX2_begin 2 none [.ref c0, .int v1] M (fNames_begin c0 v1 M) := zC.of (by decide) (Nat.le_of_ble_eq_true rfl) (v_sub (wNames_begin l G c0 hc0 v1 M) rfl)
theorem dX2_append_0 : decode cX2_append 0 = .ok (.aload_n 0, 1) := by decide +kernel
theorem dX2_append_1 : decode cX2_append 1 = .ok (.getfield 15, 3) := by decide +kernel
theorem dX2_append_4 : decode cX2_append 4 = .ok (.iload_n 1, 1) := by decide +kernel
theorem dX2_append_5 : decode cX2_append 5 = .ok (.iaload, 1) := by decide +kernel
theorem dX2_append_6 : decode cX2_append 6 = .ok (.aload_n 0, 1) := by decide +kernel
theorem dX2_append_7 : decode cX2_append 7 = .ok (.getfield 22, 3) := by decide +kernel
theorem dX2_append_10 : decode cX2_append 10 = .ok (.if_icmp .ge 32, 3) := by decide +kernel
theorem dX2_append_13 : decode cX2_append 13 = .ok (.aload_n 0, 1) := by decide +kernel
theorem dX2_append_14 : decode cX2_append 14 = .ok (.getfield 25, 3) := by decide +kernel
theorem dX2_append_17 : decode cX2_append 17 = .ok (.iload_n 1, 1) := by decide +kernel
theorem dX2_append_18 : decode cX2_append 18 = .ok (.aload_n 0, 1) := by decide +kernel
theorem dX2_append_19 : decode cX2_append 19 = .ok (.getfield 22, 3) := by decide +kernel
theorem dX2_append_22 : decode cX2_append 22 = .ok (.imul, 1) := by decide +kernel
theorem dX2_append_23 : decode cX2_append 23 = .ok (.aload_n 0, 1) := by decide +kernel
theorem dX2_append_24 : decode cX2_append 24 = .ok (.getfield 15, 3) := by decide +kernel
theorem dX2_append_27 : decode cX2_append 27 = .ok (.iload_n 1, 1) := by decide +kernel
theorem dX2_append_28 : decode cX2_append 28 = .ok (.iaload, 1) := by decide +kernel
theorem dX2_append_29 : decode cX2_append 29 = .ok (.iadd, 1) := by decide +kernel
theorem dX2_append_30 : decode cX2_append 30 = .ok (.iload_n 2, 1) := by decide +kernel
theorem dX2_append_31 : decode cX2_append 31 = .ok (.iastore, 1) := by decide +kernel
theorem dX2_append_32 : decode cX2_append 32 = .ok (.aload_n 0, 1) := by decide +kernel
theorem dX2_append_33 : decode cX2_append 33 = .ok (.getfield 15, 3) := by decide +kernel
theorem dX2_append_36 : decode cX2_append 36 = .ok (.iload_n 1, 1) := by decide +kernel
theorem dX2_append_37 : decode cX2_append 37 = .ok (.dup2, 1) := by decide +kernel
theorem dX2_append_38 : decode cX2_append 38 = .ok (.iaload, 1) := by decide +kernel
theorem dX2_append_39 : decode cX2_append 39 = .ok (.iconst 1, 1) := by decide +kernel
theorem dX2_append_40 : decode cX2_append 40 = .ok (.iadd, 1) := by decide +kernel
theorem dX2_append_41 : decode cX2_append 41 = .ok (.iastore, 1) := by decide +kernel
theorem dX2_append_42 : decode cX2_append 42 = .ok (.return_, 1) := by decide +kernel
theorem wNames_append (l : Launch) (G : zG) (c0 : Nat) (hc0 : zN c0) (v1 : Int32) (v2 : Int32) (M : zM) : zV eV l G zLX zRX 1 yX2_append cX2_append 3 none 0 [(0, .ref c0), (1, .int v1), (2, .int v2)] [] M (fNames_append c0 v1 v2 M) := by
  rw [fNames_append]
  refine v_aload_n (pc := 0) dX2_append_0 rfl ?_
  refine v_getR (pc := 1) (q := 3) zk2 hc0.1 rfl hc0.2.2.2.1 tw_234 dX2_append_1 ?_
  refine v_iload_n (pc := 4) dX2_append_4 rfl ?_
  refine v_iald (pc := 5) hc0.2.1 dX2_append_5 (fun x1 => ?_)
  refine v_aload_n (pc := 6) dX2_append_6 rfl ?_
  refine v_getI (pc := 7) (q := 1) zk2 hc0.1 rfl tw_231 dX2_append_7 ?_
  refine v_icmp_ge (pc := 10) 42 dX2_append_10 (by decide) ?_ ?_
  · exact v_vret (pc := 42) dX2_append_42
  · refine v_aload_n (pc := 13) dX2_append_13 rfl ?_
    refine v_getR (pc := 14) (q := 4) zk2 hc0.1 rfl hc0.2.2.2.2 tw_237 dX2_append_14 ?_
    refine v_iload_n (pc := 17) dX2_append_17 rfl ?_
    refine v_aload_n (pc := 18) dX2_append_18 rfl ?_
    refine v_getI (pc := 19) (q := 1) zk2 hc0.1 rfl tw_231 dX2_append_19 ?_
    refine v_imul (pc := 22) dX2_append_22 ?_
    refine v_aload_n (pc := 23) dX2_append_23 rfl ?_
    refine v_getR (pc := 24) (q := 3) zk2 hc0.1 rfl hc0.2.2.2.1 tw_234 dX2_append_24 ?_
    refine v_iload_n (pc := 27) dX2_append_27 rfl ?_
    refine v_iald (pc := 28) hc0.2.1 dX2_append_28 (fun x2 => ?_)
    refine v_iadd (pc := 29) dX2_append_29 ?_
    refine v_iload_n (pc := 30) dX2_append_30 rfl ?_
    refine v_iast (pc := 31) hc0.2.2.1 dX2_append_31 (fun M3 => ?_)
    refine v_aload_n (pc := 32) dX2_append_32 rfl ?_
    refine v_getR (pc := 33) (q := 3) zk2 hc0.1 rfl hc0.2.2.2.1 tw_234 dX2_append_33 ?_
    refine v_iload_n (pc := 36) dX2_append_36 rfl ?_
    refine v_dup2 (pc := 37) dX2_append_37 rfl rfl ?_
    refine v_iald (pc := 38) hc0.2.1 dX2_append_38 (fun x4 => ?_)
    refine v_iconst (pc := 39) 1 dX2_append_39 (by decide) ?_
    refine v_iadd (pc := 40) dX2_append_40 ?_
    refine v_iast (pc := 41) hc0.2.1 dX2_append_41 (fun M5 => ?_)
    exact v_vret (pc := 42) dX2_append_42
theorem cNames_append (l : Launch) (G : zG) (c0 : Nat) (hc0 : zN c0) (v1 : Int32) (v2 : Int32) (M : zM) : zC eV l G zLX zRX 1 yX2_append cX2_append 3 none [.ref c0, .int v1, .int v2] M (fNames_append c0 v1 v2 M) := zC.of (by decide) (Nat.le_of_ble_eq_true rfl) (v_sub (wNames_append l G c0 hc0 v1 v2 M) rfl)
theorem dX2_number_0 : decode cX2_number 0 = .ok (.iload_n 2, 1) := by decide +kernel
theorem dX2_number_1 : decode cX2_number 1 = .ok (.iconst (-1), 1) := by decide +kernel
theorem dX2_number_2 : decode cX2_number 2 = .ok (.if_icmp .ne 10, 3) := by decide +kernel
theorem dX2_number_5 : decode cX2_number 5 = .ok (.aload_n 0, 1) := by decide +kernel
theorem dX2_number_6 : decode cX2_number 6 = .ok (.getfield 15, 3) := by decide +kernel
theorem dX2_number_9 : decode cX2_number 9 = .ok (.iload_n 1, 1) := by decide +kernel
theorem dX2_number_10 : decode cX2_number 10 = .ok (.iaload, 1) := by decide +kernel
theorem dX2_number_11 : decode cX2_number 11 = .ok (.ireturn, 1) := by decide +kernel
theorem dX2_number_12 : decode cX2_number 12 = .ok (.iload_n 2, 1) := by decide +kernel
theorem dX2_number_13 : decode cX2_number 13 = .ok (.ifCond .lt 29, 3) := by decide +kernel
theorem dX2_number_16 : decode cX2_number 16 = .ok (.iload_n 2, 1) := by decide +kernel
theorem dX2_number_17 : decode cX2_number 17 = .ok (.aload_n 0, 1) := by decide +kernel
theorem dX2_number_18 : decode cX2_number 18 = .ok (.getfield 15, 3) := by decide +kernel
theorem dX2_number_21 : decode cX2_number 21 = .ok (.iload_n 1, 1) := by decide +kernel
theorem dX2_number_22 : decode cX2_number 22 = .ok (.iaload, 1) := by decide +kernel
theorem dX2_number_23 : decode cX2_number 23 = .ok (.if_icmp .ge 19, 3) := by decide +kernel
theorem dX2_number_26 : decode cX2_number 26 = .ok (.aload_n 0, 1) := by decide +kernel
theorem dX2_number_27 : decode cX2_number 27 = .ok (.getfield 25, 3) := by decide +kernel
theorem dX2_number_30 : decode cX2_number 30 = .ok (.iload_n 1, 1) := by decide +kernel
theorem dX2_number_31 : decode cX2_number 31 = .ok (.aload_n 0, 1) := by decide +kernel
theorem dX2_number_32 : decode cX2_number 32 = .ok (.getfield 22, 3) := by decide +kernel
theorem dX2_number_35 : decode cX2_number 35 = .ok (.imul, 1) := by decide +kernel
theorem dX2_number_36 : decode cX2_number 36 = .ok (.iload_n 2, 1) := by decide +kernel
theorem dX2_number_37 : decode cX2_number 37 = .ok (.iadd, 1) := by decide +kernel
theorem dX2_number_38 : decode cX2_number 38 = .ok (.iaload, 1) := by decide +kernel
theorem dX2_number_39 : decode cX2_number 39 = .ok (.goto 4, 3) := by decide +kernel
theorem dX2_number_42 : decode cX2_number 42 = .ok (.iconst (-1), 1) := by decide +kernel
theorem dX2_number_43 : decode cX2_number 43 = .ok (.ireturn, 1) := by decide +kernel
theorem wNames_number (l : Launch) (G : zG) (c0 : Nat) (hc0 : zN c0) (v1 : Int32) (v2 : Int32) (M : zM) : zV eI l G zLX zRX 1 yX2_number cX2_number 3 (some .int) 0 [(0, .ref c0), (1, .int v1), (2, .int v2)] [] M (fNames_number c0 v1 v2 M) := by
  rw [fNames_number]
  refine v_iload_n (pc := 0) dX2_number_0 rfl ?_
  refine v_iconst (pc := 1) (-1) dX2_number_1 (by decide) ?_
  refine v_icmp_ne (pc := 2) 12 dX2_number_2 (by decide) ?_ ?_
  · refine v_iload_n (pc := 12) dX2_number_12 rfl ?_
    refine v_if_lt (pc := 13) 42 dX2_number_13 (by decide) ?_ ?_
    · refine v_iconst (pc := 42) (-1) dX2_number_42 (by decide) ?_
      exact v_iret (pc := 43) dX2_number_43
    · refine v_iload_n (pc := 16) dX2_number_16 rfl ?_
      refine v_aload_n (pc := 17) dX2_number_17 rfl ?_
      refine v_getR (pc := 18) (q := 3) zk2 hc0.1 rfl hc0.2.2.2.1 tw_234 dX2_number_18 ?_
      refine v_iload_n (pc := 21) dX2_number_21 rfl ?_
      refine v_iald (pc := 22) hc0.2.1 dX2_number_22 (fun x1 => ?_)
      refine v_icmp_ge (pc := 23) 42 dX2_number_23 (by decide) ?_ ?_
      · refine v_iconst (pc := 42) (-1) dX2_number_42 (by decide) ?_
        exact v_iret (pc := 43) dX2_number_43
      · refine v_aload_n (pc := 26) dX2_number_26 rfl ?_
        refine v_getR (pc := 27) (q := 4) zk2 hc0.1 rfl hc0.2.2.2.2 tw_237 dX2_number_27 ?_
        refine v_iload_n (pc := 30) dX2_number_30 rfl ?_
        refine v_aload_n (pc := 31) dX2_number_31 rfl ?_
        refine v_getI (pc := 32) (q := 1) zk2 hc0.1 rfl tw_231 dX2_number_32 ?_
        refine v_imul (pc := 35) dX2_number_35 ?_
        refine v_iload_n (pc := 36) dX2_number_36 rfl ?_
        refine v_iadd (pc := 37) dX2_number_37 ?_
        refine v_iald (pc := 38) hc0.2.2.1 dX2_number_38 (fun x2 => ?_)
        refine v_goto (pc := 39) 43 dX2_number_39 (by decide) ?_
        exact v_iret (pc := 43) dX2_number_43
  · refine v_aload_n (pc := 5) dX2_number_5 rfl ?_
    refine v_getR (pc := 6) (q := 3) zk2 hc0.1 rfl hc0.2.2.2.1 tw_234 dX2_number_6 ?_
    refine v_iload_n (pc := 9) dX2_number_9 rfl ?_
    refine v_iald (pc := 10) hc0.2.1 dX2_number_10 (fun x3 => ?_)
    exact v_iret (pc := 11) dX2_number_11
theorem cNames_number (l : Launch) (G : zG) (c0 : Nat) (hc0 : zN c0) (v1 : Int32) (v2 : Int32) (M : zM) : zC eI l G zLX zRX 1 yX2_number cX2_number 3 (some .int) [.ref c0, .int v1, .int v2] M (fNames_number c0 v1 v2 M) := zC.of (by decide) (Nat.le_of_ble_eq_true rfl) (v_sub (wNames_number l G c0 hc0 v1 v2 M) rfl)
theorem dX2_distance_0 : decode cX2_distance 0 = .ok (.iconst (-1), 1) := by decide +kernel
theorem dX2_distance_1 : decode cX2_distance 1 = .ok (.istore_n 3, 1) := by decide +kernel
theorem dX2_distance_2 : decode cX2_distance 2 = .ok (.iconst 0, 1) := by decide +kernel
theorem dX2_distance_3 : decode cX2_distance 3 = .ok (.istore 4, 2) := by decide +kernel
theorem dX2_distance_5 : decode cX2_distance 5 = .ok (.iload 4, 2) := by decide +kernel
theorem dX2_distance_7 : decode cX2_distance 7 = .ok (.aload_n 0, 1) := by decide +kernel
theorem dX2_distance_8 : decode cX2_distance 8 = .ok (.getfield 15, 3) := by decide +kernel
theorem dX2_distance_11 : decode cX2_distance 11 = .ok (.iload_n 1, 1) := by decide +kernel
theorem dX2_distance_12 : decode cX2_distance 12 = .ok (.iaload, 1) := by decide +kernel
theorem dX2_distance_13 : decode cX2_distance 13 = .ok (.if_icmp .ge 84, 3) := by decide +kernel
theorem dX2_distance_16 : decode cX2_distance 16 = .ok (.iconst 0, 1) := by decide +kernel
theorem dX2_distance_17 : decode cX2_distance 17 = .ok (.istore 5, 2) := by decide +kernel
theorem dX2_distance_19 : decode cX2_distance 19 = .ok (.iload 5, 2) := by decide +kernel
theorem dX2_distance_21 : decode cX2_distance 21 = .ok (.aload_n 0, 1) := by decide +kernel
theorem dX2_distance_22 : decode cX2_distance 22 = .ok (.getfield 15, 3) := by decide +kernel
theorem dX2_distance_25 : decode cX2_distance 25 = .ok (.iload_n 2, 1) := by decide +kernel
theorem dX2_distance_26 : decode cX2_distance 26 = .ok (.iaload, 1) := by decide +kernel
theorem dX2_distance_27 : decode cX2_distance 27 = .ok (.if_icmp .ge 64, 3) := by decide +kernel
theorem dX2_distance_30 : decode cX2_distance 30 = .ok (.aload_n 0, 1) := by decide +kernel
theorem dX2_distance_31 : decode cX2_distance 31 = .ok (.iload_n 1, 1) := by decide +kernel
theorem dX2_distance_32 : decode cX2_distance 32 = .ok (.iload 4, 2) := by decide +kernel
theorem dX2_distance_34 : decode cX2_distance 34 = .ok (.invokevirtual 42, 3) := by decide +kernel
theorem dX2_distance_37 : decode cX2_distance 37 = .ok (.aload_n 0, 1) := by decide +kernel
theorem dX2_distance_38 : decode cX2_distance 38 = .ok (.iload_n 2, 1) := by decide +kernel
theorem dX2_distance_39 : decode cX2_distance 39 = .ok (.iload 5, 2) := by decide +kernel
theorem dX2_distance_41 : decode cX2_distance 41 = .ok (.invokevirtual 42, 3) := by decide +kernel
theorem dX2_distance_44 : decode cX2_distance 44 = .ok (.if_icmp .ne 41, 3) := by decide +kernel
theorem dX2_distance_47 : decode cX2_distance 47 = .ok (.aload_n 0, 1) := by decide +kernel
theorem dX2_distance_48 : decode cX2_distance 48 = .ok (.iload_n 1, 1) := by decide +kernel
theorem dX2_distance_49 : decode cX2_distance 49 = .ok (.iload 4, 2) := by decide +kernel
theorem dX2_distance_51 : decode cX2_distance 51 = .ok (.iconst 1, 1) := by decide +kernel
theorem dX2_distance_52 : decode cX2_distance 52 = .ok (.iadd, 1) := by decide +kernel
theorem dX2_distance_53 : decode cX2_distance 53 = .ok (.invokevirtual 42, 3) := by decide +kernel
theorem dX2_distance_56 : decode cX2_distance 56 = .ok (.aload_n 0, 1) := by decide +kernel
theorem dX2_distance_57 : decode cX2_distance 57 = .ok (.iload_n 2, 1) := by decide +kernel
theorem dX2_distance_58 : decode cX2_distance 58 = .ok (.iload 5, 2) := by decide +kernel
theorem dX2_distance_60 : decode cX2_distance 60 = .ok (.iconst 1, 1) := by decide +kernel
theorem dX2_distance_61 : decode cX2_distance 61 = .ok (.iadd, 1) := by decide +kernel
theorem dX2_distance_62 : decode cX2_distance 62 = .ok (.invokevirtual 42, 3) := by decide +kernel
theorem dX2_distance_65 : decode cX2_distance 65 = .ok (.iadd, 1) := by decide +kernel
theorem dX2_distance_66 : decode cX2_distance 66 = .ok (.istore 6, 2) := by decide +kernel
theorem dX2_distance_68 : decode cX2_distance 68 = .ok (.iload_n 3, 1) := by decide +kernel
theorem dX2_distance_69 : decode cX2_distance 69 = .ok (.iconst (-1), 1) := by decide +kernel
theorem dX2_distance_70 : decode cX2_distance 70 = .ok (.if_icmp .ne 8, 3) := by decide +kernel
theorem dX2_distance_73 : decode cX2_distance 73 = .ok (.iload 6, 2) := by decide +kernel
theorem dX2_distance_75 : decode cX2_distance 75 = .ok (.goto 9, 3) := by decide +kernel
theorem dX2_distance_78 : decode cX2_distance 78 = .ok (.iload_n 3, 1) := by decide +kernel
theorem dX2_distance_79 : decode cX2_distance 79 = .ok (.iload 6, 2) := by decide +kernel
theorem dX2_distance_81 : decode cX2_distance 81 = .ok (.invokestatic 59, 3) := by decide +kernel
theorem dX2_distance_84 : decode cX2_distance 84 = .ok (.istore_n 3, 1) := by decide +kernel
theorem dX2_distance_85 : decode cX2_distance 85 = .ok (.iinc 5 2, 3) := by decide +kernel
theorem dX2_distance_88 : decode cX2_distance 88 = .ok (.goto (-69), 3) := by decide +kernel
theorem dX2_distance_91 : decode cX2_distance 91 = .ok (.iinc 4 2, 3) := by decide +kernel
theorem dX2_distance_94 : decode cX2_distance 94 = .ok (.goto (-89), 3) := by decide +kernel
theorem dX2_distance_97 : decode cX2_distance 97 = .ok (.iload_n 3, 1) := by decide +kernel
theorem dX2_distance_98 : decode cX2_distance 98 = .ok (.ireturn, 1) := by decide +kernel
theorem wNames_distance_19 (l : Launch) (G : zG) (k5 : Nat → Int32 → Int32 → Int32 → Int32 → zM → Option (Int32 × zM)) (hk5 : ∀ (c0 : Nat) (hc0 : zN c0) (v1 : Int32) (v2 : Int32) (v3 : Int32) (v4 : Int32) (M : zM), zV eI l G zLX zRX 2 yX2_distance cX2_distance 7 (some .int) 5 [(0, .ref c0), (1, .int v1), (2, .int v2), (3, .int v3), (4, .int v4)] [] M (k5 c0 v1 v2 v3 v4 M)) : ∀ (fuel : Nat) (c0 : Nat) (hc0 : zN c0) (v1 : Int32) (v2 : Int32) (v3 : Int32) (v4 : Int32) (v5 : Int32) (M : zM), zV eI l G zLX zRX 2 yX2_distance cX2_distance 7 (some .int) 19 [(0, .ref c0), (1, .int v1), (2, .int v2), (3, .int v3), (4, .int v4), (5, .int v5)] [] M (fNames_distance_19 k5 fuel c0 v1 v2 v3 v4 v5 M) := by
  intro fuel
  induction fuel with
  | zero => intro c0 hc0 v1 v2 v3 v4 v5 M; exact v_none
  | succ fuel ih =>
    intro c0 hc0 v1 v2 v3 v4 v5 M
    rw [fNames_distance_19]
    refine v_iload (pc := 19) dX2_distance_19 rfl ?_
    refine v_aload_n (pc := 21) dX2_distance_21 rfl ?_
    refine v_getR (pc := 22) (q := 3) zk2 hc0.1 rfl hc0.2.2.2.1 tw_234 dX2_distance_22 ?_
    refine v_iload_n (pc := 25) dX2_distance_25 rfl ?_
    refine v_iald (pc := 26) hc0.2.1 dX2_distance_26 (fun x1 => ?_)
    refine v_icmp_ge (pc := 27) 91 dX2_distance_27 (by decide) ?_ ?_
    · refine v_iinc (pc := 91) 2 dX2_distance_91 rfl (by decide) (by decide) ?_
      refine v_goto (pc := 94) 5 dX2_distance_94 (by decide) ?_
      exact v_sub (hk5 c0 hc0 v1 v2 v3 (v4 + 2) M) rfl
    · refine v_aload_n (pc := 30) dX2_distance_30 rfl ?_
      refine v_iload_n (pc := 31) dX2_distance_31 rfl ?_
      refine v_iload (pc := 32) dX2_distance_32 rfl ?_
      refine v_callV (pc := 34) (As := [.int v1, .int v4]) (cNames_number l G c0 hc0 v1 v4 M) zc_X2_number zk2 rfl hc0.1 tw_622 (by decide) (Nat.le_of_ble_eq_true rfl) dX2_distance_34 (fun r3 M2 => ?_)
      refine v_aload_n (pc := 37) dX2_distance_37 rfl ?_
      refine v_iload_n (pc := 38) dX2_distance_38 rfl ?_
      refine v_iload (pc := 39) dX2_distance_39 rfl ?_
      refine v_callV (pc := 41) (As := [.int v2, .int v5]) (cNames_number l G c0 hc0 v2 v5 M2) zc_X2_number zk2 rfl hc0.1 tw_622 (by decide) (Nat.le_of_ble_eq_true rfl) dX2_distance_41 (fun r5 M4 => ?_)
      refine v_icmp_ne (pc := 44) 85 dX2_distance_44 (by decide) ?_ ?_
      · refine v_iinc (pc := 85) 2 dX2_distance_85 rfl (by decide) (by decide) ?_
        refine v_goto (pc := 88) 19 dX2_distance_88 (by decide) ?_
        exact v_sub (ih c0 hc0 v1 v2 v3 v4 (v5 + 2) M4) rfl
      · refine v_aload_n (pc := 47) dX2_distance_47 rfl ?_
        refine v_iload_n (pc := 48) dX2_distance_48 rfl ?_
        refine v_iload (pc := 49) dX2_distance_49 rfl ?_
        refine v_iconst (pc := 51) 1 dX2_distance_51 (by decide) ?_
        refine v_iadd (pc := 52) dX2_distance_52 ?_
        refine v_callV (pc := 53) (As := [.int v1, .int (v4 + 1)]) (cNames_number l G c0 hc0 v1 (v4 + 1) M4) zc_X2_number zk2 rfl hc0.1 tw_622 (by decide) (Nat.le_of_ble_eq_true rfl) dX2_distance_53 (fun r7 M6 => ?_)
        refine v_aload_n (pc := 56) dX2_distance_56 rfl ?_
        refine v_iload_n (pc := 57) dX2_distance_57 rfl ?_
        refine v_iload (pc := 58) dX2_distance_58 rfl ?_
        refine v_iconst (pc := 60) 1 dX2_distance_60 (by decide) ?_
        refine v_iadd (pc := 61) dX2_distance_61 ?_
        refine v_callV (pc := 62) (As := [.int v2, .int (v5 + 1)]) (cNames_number l G c0 hc0 v2 (v5 + 1) M6) zc_X2_number zk2 rfl hc0.1 tw_622 (by decide) (Nat.le_of_ble_eq_true rfl) dX2_distance_62 (fun r9 M8 => ?_)
        refine v_iadd (pc := 65) dX2_distance_65 ?_
        refine v_istoreL (pc := 66) dX2_distance_66 (by decide) (fun u6_66 => ?_)
        refine v_iload_n (pc := 68) dX2_distance_68 rfl ?_
        refine v_iconst (pc := 69) (-1) dX2_distance_69 (by decide) ?_
        refine v_icmp_ne (pc := 70) 78 dX2_distance_70 (by decide) ?_ ?_
        · refine v_iload_n (pc := 78) dX2_distance_78 rfl ?_
          refine v_iload (pc := 79) dX2_distance_79 rfl ?_
          refine v_mmin (pc := 81) tw_626 (by decide) (Nat.le_of_ble_eq_true rfl) dX2_distance_81 ?_
          refine v_istore_nL (pc := 84) dX2_distance_84 (by decide) (fun u3_84 => ?_)
          refine v_iinc (pc := 85) 2 dX2_distance_85 rfl (by decide) (by decide) ?_
          refine v_goto (pc := 88) 19 dX2_distance_88 (by decide) ?_
          exact v_sub (ih c0 hc0 v1 v2 u3_84 v4 (v5 + 2) M8) rfl
        · refine v_iload (pc := 73) dX2_distance_73 rfl ?_
          refine v_goto (pc := 75) 84 dX2_distance_75 (by decide) ?_
          refine v_istore_n (pc := 84) dX2_distance_84 (by decide) ?_
          refine v_iinc (pc := 85) 2 dX2_distance_85 rfl (by decide) (by decide) ?_
          refine v_goto (pc := 88) 19 dX2_distance_88 (by decide) ?_
          exact v_sub (ih c0 hc0 v1 v2 u6_66 v4 (v5 + 2) M8) rfl
theorem wNames_distance_5 (l : Launch) (G : zG) : ∀ (fuel : Nat) (c0 : Nat) (hc0 : zN c0) (v1 : Int32) (v2 : Int32) (v3 : Int32) (v4 : Int32) (M : zM), zV eI l G zLX zRX 2 yX2_distance cX2_distance 7 (some .int) 5 [(0, .ref c0), (1, .int v1), (2, .int v2), (3, .int v3), (4, .int v4)] [] M (fNames_distance_5 fuel c0 v1 v2 v3 v4 M) := by
  intro fuel
  induction fuel with
  | zero => intro c0 hc0 v1 v2 v3 v4 M; exact v_none
  | succ fuel ih =>
    intro c0 hc0 v1 v2 v3 v4 M
    rw [fNames_distance_5]
    refine v_iload (pc := 5) dX2_distance_5 rfl ?_
    refine v_aload_n (pc := 7) dX2_distance_7 rfl ?_
    refine v_getR (pc := 8) (q := 3) zk2 hc0.1 rfl hc0.2.2.2.1 tw_234 dX2_distance_8 ?_
    refine v_iload_n (pc := 11) dX2_distance_11 rfl ?_
    refine v_iald (pc := 12) hc0.2.1 dX2_distance_12 (fun x1 => ?_)
    refine v_icmp_ge (pc := 13) 97 dX2_distance_13 (by decide) ?_ ?_
    · refine v_iload_n (pc := 97) dX2_distance_97 rfl ?_
      exact v_iret (pc := 98) dX2_distance_98
    · refine v_iconst (pc := 16) 0 dX2_distance_16 (by decide) ?_
      refine v_istore (pc := 17) dX2_distance_17 (by decide) ?_
      exact v_sub (wNames_distance_19 l G (fNames_distance_5 fuel) ih FU c0 hc0 v1 v2 v3 v4 0 M) rfl
theorem wNames_distance (l : Launch) (G : zG) (c0 : Nat) (hc0 : zN c0) (v1 : Int32) (v2 : Int32) (M : zM) : zV eI l G zLX zRX 2 yX2_distance cX2_distance 7 (some .int) 0 [(0, .ref c0), (1, .int v1), (2, .int v2)] [] M (fNames_distance c0 v1 v2 M) := by
  rw [fNames_distance]
  refine v_iconst (pc := 0) (-1) dX2_distance_0 (by decide) ?_
  refine v_istore_n (pc := 1) dX2_distance_1 (by decide) ?_
  refine v_iconst (pc := 2) 0 dX2_distance_2 (by decide) ?_
  refine v_istore (pc := 3) dX2_distance_3 (by decide) ?_
  exact v_sub (wNames_distance_5 l G FU c0 hc0 v1 v2 (-1) 0 M) rfl
theorem cNames_distance (l : Launch) (G : zG) (c0 : Nat) (hc0 : zN c0) (v1 : Int32) (v2 : Int32) (M : zM) : zC eI l G zLX zRX 2 yX2_distance cX2_distance 7 (some .int) [.ref c0, .int v1, .int v2] M (fNames_distance c0 v1 v2 M) := zC.of (by decide) (Nat.le_of_ble_eq_true rfl) (v_sub (wNames_distance l G c0 hc0 v1 v2 M) rfl)
theorem dX2_has_0 : decode cX2_has 0 = .ok (.iload_n 2, 1) := by decide +kernel
theorem dX2_has_1 : decode cX2_has 1 = .ok (.ifCond .lt 17, 3) := by decide +kernel
theorem dX2_has_4 : decode cX2_has 4 = .ok (.iload_n 2, 1) := by decide +kernel
theorem dX2_has_5 : decode cX2_has 5 = .ok (.aload_n 0, 1) := by decide +kernel
theorem dX2_has_6 : decode cX2_has 6 = .ok (.getfield 15, 3) := by decide +kernel
theorem dX2_has_9 : decode cX2_has 9 = .ok (.iload_n 1, 1) := by decide +kernel
theorem dX2_has_10 : decode cX2_has 10 = .ok (.iaload, 1) := by decide +kernel
theorem dX2_has_11 : decode cX2_has 11 = .ok (.if_icmp .ge 7, 3) := by decide +kernel
theorem dX2_has_14 : decode cX2_has 14 = .ok (.iconst 1, 1) := by decide +kernel
theorem dX2_has_15 : decode cX2_has 15 = .ok (.goto 4, 3) := by decide +kernel
theorem dX2_has_18 : decode cX2_has 18 = .ok (.iconst 0, 1) := by decide +kernel
theorem dX2_has_19 : decode cX2_has 19 = .ok (.ireturn, 1) := by decide +kernel
theorem wNames_has (l : Launch) (G : zG) (c0 : Nat) (hc0 : zN c0) (v1 : Int32) (v2 : Int32) (M : zM) : zV eI l G zLX zRX 1 yX2_has cX2_has 3 (some .boolean) 0 [(0, .ref c0), (1, .int v1), (2, .int v2)] [] M (fNames_has c0 v1 v2 M) := by
  rw [fNames_has]
  refine v_iload_n (pc := 0) dX2_has_0 rfl ?_
  refine v_if_lt (pc := 1) 18 dX2_has_1 (by decide) ?_ ?_
  · refine v_iconst (pc := 18) 0 dX2_has_18 (by decide) ?_
    exact v_zret (pc := 19) dX2_has_19
  · refine v_iload_n (pc := 4) dX2_has_4 rfl ?_
    refine v_aload_n (pc := 5) dX2_has_5 rfl ?_
    refine v_getR (pc := 6) (q := 3) zk2 hc0.1 rfl hc0.2.2.2.1 tw_234 dX2_has_6 ?_
    refine v_iload_n (pc := 9) dX2_has_9 rfl ?_
    refine v_iald (pc := 10) hc0.2.1 dX2_has_10 (fun x1 => ?_)
    refine v_icmp_ge (pc := 11) 18 dX2_has_11 (by decide) ?_ ?_
    · refine v_iconst (pc := 18) 0 dX2_has_18 (by decide) ?_
      exact v_zret (pc := 19) dX2_has_19
    · refine v_iconst (pc := 14) 1 dX2_has_14 (by decide) ?_
      refine v_goto (pc := 15) 19 dX2_has_15 (by decide) ?_
      exact v_zret (pc := 19) dX2_has_19
theorem cNames_has (l : Launch) (G : zG) (c0 : Nat) (hc0 : zN c0) (v1 : Int32) (v2 : Int32) (M : zM) : zC eI l G zLX zRX 1 yX2_has cX2_has 3 (some .boolean) [.ref c0, .int v1, .int v2] M (fNames_has c0 v1 v2 M) := zC.of (by decide) (Nat.le_of_ble_eq_true rfl) (v_sub (wNames_has l G c0 hc0 v1 v2 M) rfl)
theorem dX2_put_0 : decode cX2_put 0 = .ok (.aload_n 0, 1) := by decide +kernel
theorem dX2_put_1 : decode cX2_put 1 = .ok (.iload_n 1, 1) := by decide +kernel
theorem dX2_put_2 : decode cX2_put 2 = .ok (.iload_n 2, 1) := by decide +kernel
theorem dX2_put_3 : decode cX2_put 3 = .ok (.invokevirtual 34, 3) := by decide +kernel
theorem dX2_put_6 : decode cX2_put 6 = .ok (.ifCond .eq 17, 3) := by decide +kernel
theorem dX2_put_9 : decode cX2_put 9 = .ok (.aload_n 0, 1) := by decide +kernel
theorem dX2_put_10 : decode cX2_put 10 = .ok (.getfield 25, 3) := by decide +kernel
theorem dX2_put_13 : decode cX2_put 13 = .ok (.iload_n 1, 1) := by decide +kernel
theorem dX2_put_14 : decode cX2_put 14 = .ok (.aload_n 0, 1) := by decide +kernel
theorem dX2_put_15 : decode cX2_put 15 = .ok (.getfield 22, 3) := by decide +kernel
theorem dX2_put_18 : decode cX2_put 18 = .ok (.imul, 1) := by decide +kernel
theorem dX2_put_19 : decode cX2_put 19 = .ok (.iload_n 2, 1) := by decide +kernel
theorem dX2_put_20 : decode cX2_put 20 = .ok (.iadd, 1) := by decide +kernel
theorem dX2_put_21 : decode cX2_put 21 = .ok (.iload_n 3, 1) := by decide +kernel
theorem dX2_put_22 : decode cX2_put 22 = .ok (.iastore, 1) := by decide +kernel
theorem dX2_put_23 : decode cX2_put 23 = .ok (.return_, 1) := by decide +kernel
theorem wNames_put (l : Launch) (G : zG) (c0 : Nat) (hc0 : zN c0) (v1 : Int32) (v2 : Int32) (v3 : Int32) (M : zM) : zV eV l G zLX zRX 2 yX2_put cX2_put 4 none 0 [(0, .ref c0), (1, .int v1), (2, .int v2), (3, .int v3)] [] M (fNames_put c0 v1 v2 v3 M) := by
  rw [fNames_put]
  refine v_aload_n (pc := 0) dX2_put_0 rfl ?_
  refine v_iload_n (pc := 1) dX2_put_1 rfl ?_
  refine v_iload_n (pc := 2) dX2_put_2 rfl ?_
  refine v_callV (pc := 3) (As := [.int v1, .int v2]) (cNames_has l G c0 hc0 v1 v2 M) zc_X2_has zk2 rfl hc0.1 tw_734 (by decide) (Nat.le_of_ble_eq_true rfl) dX2_put_3 (fun r2 M1 => ?_)
  refine v_if_eq (pc := 6) 23 dX2_put_6 (by decide) ?_ ?_
  · exact v_vret (pc := 23) dX2_put_23
  · refine v_aload_n (pc := 9) dX2_put_9 rfl ?_
    refine v_getR (pc := 10) (q := 4) zk2 hc0.1 rfl hc0.2.2.2.2 tw_237 dX2_put_10 ?_
    refine v_iload_n (pc := 13) dX2_put_13 rfl ?_
    refine v_aload_n (pc := 14) dX2_put_14 rfl ?_
    refine v_getI (pc := 15) (q := 1) zk2 hc0.1 rfl tw_231 dX2_put_15 ?_
    refine v_imul (pc := 18) dX2_put_18 ?_
    refine v_iload_n (pc := 19) dX2_put_19 rfl ?_
    refine v_iadd (pc := 20) dX2_put_20 ?_
    refine v_iload_n (pc := 21) dX2_put_21 rfl ?_
    refine v_iast (pc := 22) hc0.2.2.1 dX2_put_22 (fun M3 => ?_)
    exact v_vret (pc := 23) dX2_put_23
theorem cNames_put (l : Launch) (G : zG) (c0 : Nat) (hc0 : zN c0) (v1 : Int32) (v2 : Int32) (v3 : Int32) (M : zM) : zC eV l G zLX zRX 2 yX2_put cX2_put 4 none [.ref c0, .int v1, .int v2, .int v3] M (fNames_put c0 v1 v2 v3 M) := zC.of (by decide) (Nat.le_of_ble_eq_true rfl) (v_sub (wNames_put l G c0 hc0 v1 v2 v3 M) rfl)
theorem dX2_copy_0 : decode cX2_copy 0 = .ok (.aload_n 0, 1) := by decide +kernel
theorem dX2_copy_1 : decode cX2_copy 1 = .ok (.aload_n 1, 1) := by decide +kernel
theorem dX2_copy_2 : decode cX2_copy 2 = .ok (.getfield 9, 3) := by decide +kernel
theorem dX2_copy_5 : decode cX2_copy 5 = .ok (.invokevirtual 38, 3) := by decide +kernel
theorem dX2_copy_8 : decode cX2_copy 8 = .ok (.iconst 0, 1) := by decide +kernel
theorem dX2_copy_9 : decode cX2_copy 9 = .ok (.istore_n 2, 1) := by decide +kernel
theorem dX2_copy_10 : decode cX2_copy 10 = .ok (.iload_n 2, 1) := by decide +kernel
theorem dX2_copy_11 : decode cX2_copy 11 = .ok (.aload_n 0, 1) := by decide +kernel
theorem dX2_copy_12 : decode cX2_copy 12 = .ok (.getfield 9, 3) := by decide +kernel
theorem dX2_copy_15 : decode cX2_copy 15 = .ok (.if_icmp .ge 38, 3) := by decide +kernel
theorem dX2_copy_18 : decode cX2_copy 18 = .ok (.iconst 0, 1) := by decide +kernel
theorem dX2_copy_19 : decode cX2_copy 19 = .ok (.istore_n 3, 1) := by decide +kernel
theorem dX2_copy_20 : decode cX2_copy 20 = .ok (.iload_n 3, 1) := by decide +kernel
theorem dX2_copy_21 : decode cX2_copy 21 = .ok (.aload_n 1, 1) := by decide +kernel
theorem dX2_copy_22 : decode cX2_copy 22 = .ok (.getfield 15, 3) := by decide +kernel
theorem dX2_copy_25 : decode cX2_copy 25 = .ok (.iload_n 2, 1) := by decide +kernel
theorem dX2_copy_26 : decode cX2_copy 26 = .ok (.iaload, 1) := by decide +kernel
theorem dX2_copy_27 : decode cX2_copy 27 = .ok (.if_icmp .ge 20, 3) := by decide +kernel
theorem dX2_copy_30 : decode cX2_copy 30 = .ok (.aload_n 0, 1) := by decide +kernel
theorem dX2_copy_31 : decode cX2_copy 31 = .ok (.iload_n 2, 1) := by decide +kernel
theorem dX2_copy_32 : decode cX2_copy 32 = .ok (.aload_n 1, 1) := by decide +kernel
theorem dX2_copy_33 : decode cX2_copy 33 = .ok (.iload_n 2, 1) := by decide +kernel
theorem dX2_copy_34 : decode cX2_copy 34 = .ok (.iload_n 3, 1) := by decide +kernel
theorem dX2_copy_35 : decode cX2_copy 35 = .ok (.invokevirtual 42, 3) := by decide +kernel
theorem dX2_copy_38 : decode cX2_copy 38 = .ok (.invokevirtual 46, 3) := by decide +kernel
theorem dX2_copy_41 : decode cX2_copy 41 = .ok (.iinc 3 1, 3) := by decide +kernel
theorem dX2_copy_44 : decode cX2_copy 44 = .ok (.goto (-24), 3) := by decide +kernel
theorem dX2_copy_47 : decode cX2_copy 47 = .ok (.iinc 2 1, 3) := by decide +kernel
theorem dX2_copy_50 : decode cX2_copy 50 = .ok (.goto (-40), 3) := by decide +kernel
theorem dX2_copy_53 : decode cX2_copy 53 = .ok (.return_, 1) := by decide +kernel
theorem wNames_copy_20 (l : Launch) (G : zG) (k10 : Nat → Nat → Int32 → zM → Option (Unit × zM)) (hk10 : ∀ (c0 : Nat) (hc0 : zN c0) (c1 : Nat) (hc1 : zN c1) (v2 : Int32) (M : zM), zV eV l G zLX zRX 3 yX2_copy cX2_copy 4 none 10 [(0, .ref c0), (1, .ref c1), (2, .int v2)] [] M (k10 c0 c1 v2 M)) : ∀ (fuel : Nat) (c0 : Nat) (hc0 : zN c0) (c1 : Nat) (hc1 : zN c1) (v2 : Int32) (v3 : Int32) (M : zM), zV eV l G zLX zRX 3 yX2_copy cX2_copy 4 none 20 [(0, .ref c0), (1, .ref c1), (2, .int v2), (3, .int v3)] [] M (fNames_copy_20 k10 fuel c0 c1 v2 v3 M) := by
  intro fuel
  induction fuel with
  | zero => intro c0 hc0 c1 hc1 v2 v3 M; exact v_none
  | succ fuel ih =>
    intro c0 hc0 c1 hc1 v2 v3 M
    rw [fNames_copy_20]
    refine v_iload_n (pc := 20) dX2_copy_20 rfl ?_
    refine v_aload_n (pc := 21) dX2_copy_21 rfl ?_
    refine v_getR (pc := 22) (q := 3) zk2 hc1.1 rfl hc1.2.2.2.1 tw_234 dX2_copy_22 ?_
    refine v_iload_n (pc := 25) dX2_copy_25 rfl ?_
    refine v_iald (pc := 26) hc1.2.1 dX2_copy_26 (fun x1 => ?_)
    refine v_icmp_ge (pc := 27) 47 dX2_copy_27 (by decide) ?_ ?_
    · refine v_iinc (pc := 47) 1 dX2_copy_47 rfl (by decide) (by decide) ?_
      refine v_goto (pc := 50) 10 dX2_copy_50 (by decide) ?_
      exact v_sub (hk10 c0 hc0 c1 hc1 (v2 + 1) M) rfl
    · refine v_aload_n (pc := 30) dX2_copy_30 rfl ?_
      refine v_iload_n (pc := 31) dX2_copy_31 rfl ?_
      refine v_aload_n (pc := 32) dX2_copy_32 rfl ?_
      refine v_iload_n (pc := 33) dX2_copy_33 rfl ?_
      refine v_iload_n (pc := 34) dX2_copy_34 rfl ?_
      refine v_callV (pc := 35) (As := [.int v2, .int v3]) (cNames_number l G c1 hc1 v2 v3 M) zc_X2_number zk2 rfl hc1.1 tw_622 (by decide) (Nat.le_of_ble_eq_true rfl) dX2_copy_35 (fun r3 M2 => ?_)
      refine v_callV (pc := 38) (As := [.int v2, .int r3]) (cNames_append l G c0 hc0 v2 r3 M2) zc_X2_append zk2 rfl hc0.1 tw_712 (by decide) (Nat.le_of_ble_eq_true rfl) dX2_copy_38 (fun _ M4 => ?_)
      skip
      refine v_iinc (pc := 41) 1 dX2_copy_41 rfl (by decide) (by decide) ?_
      refine v_goto (pc := 44) 20 dX2_copy_44 (by decide) ?_
      exact v_sub (ih c0 hc0 c1 hc1 v2 (v3 + 1) M4) rfl
theorem wNames_copy_10 (l : Launch) (G : zG) : ∀ (fuel : Nat) (c0 : Nat) (hc0 : zN c0) (c1 : Nat) (hc1 : zN c1) (v2 : Int32) (M : zM), zV eV l G zLX zRX 3 yX2_copy cX2_copy 4 none 10 [(0, .ref c0), (1, .ref c1), (2, .int v2)] [] M (fNames_copy_10 fuel c0 c1 v2 M) := by
  intro fuel
  induction fuel with
  | zero => intro c0 hc0 c1 hc1 v2 M; exact v_none
  | succ fuel ih =>
    intro c0 hc0 c1 hc1 v2 M
    rw [fNames_copy_10]
    refine v_iload_n (pc := 10) dX2_copy_10 rfl ?_
    refine v_aload_n (pc := 11) dX2_copy_11 rfl ?_
    refine v_getI (pc := 12) (q := 2) zk2 hc0.1 rfl tw_232 dX2_copy_12 ?_
    refine v_icmp_ge (pc := 15) 53 dX2_copy_15 (by decide) ?_ ?_
    · exact v_vret (pc := 53) dX2_copy_53
    · refine v_iconst (pc := 18) 0 dX2_copy_18 (by decide) ?_
      refine v_istore_n (pc := 19) dX2_copy_19 (by decide) ?_
      exact v_sub (wNames_copy_20 l G (fNames_copy_10 fuel) ih FU c0 hc0 c1 hc1 v2 0 M) rfl
theorem wNames_copy (l : Launch) (G : zG) (c0 : Nat) (hc0 : zN c0) (c1 : Nat) (hc1 : zN c1) (M : zM) : zV eV l G zLX zRX 3 yX2_copy cX2_copy 4 none 0 [(0, .ref c0), (1, .ref c1)] [] M (fNames_copy c0 c1 M) := by
  rw [fNames_copy]
  refine v_aload_n (pc := 0) dX2_copy_0 rfl ?_
  refine v_aload_n (pc := 1) dX2_copy_1 rfl ?_
  refine v_getI (pc := 2) (q := 2) zk2 hc1.1 rfl tw_232 dX2_copy_2 ?_
  refine v_callV (pc := 5) (As := [.int (M c1 2)]) (cNames_begin l G c0 hc0 (M c1 2) M) zc_X2_begin zk2 rfl hc0.1 tw_711 (by decide) (Nat.le_of_ble_eq_true rfl) dX2_copy_5 (fun _ M1 => ?_)
  skip
  refine v_iconst (pc := 8) 0 dX2_copy_8 (by decide) ?_
  refine v_istore_n (pc := 9) dX2_copy_9 (by decide) ?_
  exact v_sub (wNames_copy_10 l G FU c0 hc0 c1 hc1 0 M1) rfl
theorem cNames_copy (l : Launch) (G : zG) (c0 : Nat) (hc0 : zN c0) (c1 : Nat) (hc1 : zN c1) (M : zM) : zC eV l G zLX zRX 3 yX2_copy cX2_copy 4 none [.ref c0, .ref c1] M (fNames_copy c0 c1 M) := zC.of (by decide) (Nat.le_of_ble_eq_true rfl) (v_sub (wNames_copy l G c0 hc0 c1 hc1 M) rfl)
theorem dX2_isLike_0 : decode cX2_isLike 0 = .ok (.iload_n 2, 1) := by decide +kernel
theorem dX2_isLike_1 : decode cX2_isLike 1 = .ok (.aload_n 0, 1) := by decide +kernel
theorem dX2_isLike_2 : decode cX2_isLike 2 = .ok (.getfield 9, 3) := by decide +kernel
theorem dX2_isLike_5 : decode cX2_isLike 5 = .ok (.if_icmp .ge 26, 3) := by decide +kernel
theorem dX2_isLike_8 : decode cX2_isLike 8 = .ok (.iload_n 2, 1) := by decide +kernel
theorem dX2_isLike_9 : decode cX2_isLike 9 = .ok (.aload_n 1, 1) := by decide +kernel
theorem dX2_isLike_10 : decode cX2_isLike 10 = .ok (.getfield 9, 3) := by decide +kernel
theorem dX2_isLike_13 : decode cX2_isLike 13 = .ok (.if_icmp .ge 18, 3) := by decide +kernel
theorem dX2_isLike_16 : decode cX2_isLike 16 = .ok (.aload_n 0, 1) := by decide +kernel
theorem dX2_isLike_17 : decode cX2_isLike 17 = .ok (.getfield 15, 3) := by decide +kernel
theorem dX2_isLike_20 : decode cX2_isLike 20 = .ok (.iload_n 2, 1) := by decide +kernel
theorem dX2_isLike_21 : decode cX2_isLike 21 = .ok (.iaload, 1) := by decide +kernel
theorem dX2_isLike_22 : decode cX2_isLike 22 = .ok (.aload_n 1, 1) := by decide +kernel
theorem dX2_isLike_23 : decode cX2_isLike 23 = .ok (.getfield 15, 3) := by decide +kernel
theorem dX2_isLike_26 : decode cX2_isLike 26 = .ok (.iload_n 2, 1) := by decide +kernel
theorem dX2_isLike_27 : decode cX2_isLike 27 = .ok (.iaload, 1) := by decide +kernel
theorem dX2_isLike_28 : decode cX2_isLike 28 = .ok (.if_icmp .eq 5, 3) := by decide +kernel
theorem dX2_isLike_31 : decode cX2_isLike 31 = .ok (.iconst 0, 1) := by decide +kernel
theorem dX2_isLike_32 : decode cX2_isLike 32 = .ok (.ireturn, 1) := by decide +kernel
theorem dX2_isLike_33 : decode cX2_isLike 33 = .ok (.iconst 0, 1) := by decide +kernel
theorem dX2_isLike_34 : decode cX2_isLike 34 = .ok (.istore_n 3, 1) := by decide +kernel
theorem dX2_isLike_35 : decode cX2_isLike 35 = .ok (.iload_n 3, 1) := by decide +kernel
theorem dX2_isLike_36 : decode cX2_isLike 36 = .ok (.aload_n 0, 1) := by decide +kernel
theorem dX2_isLike_37 : decode cX2_isLike 37 = .ok (.getfield 15, 3) := by decide +kernel
theorem dX2_isLike_40 : decode cX2_isLike 40 = .ok (.iload_n 2, 1) := by decide +kernel
theorem dX2_isLike_41 : decode cX2_isLike 41 = .ok (.iaload, 1) := by decide +kernel
theorem dX2_isLike_42 : decode cX2_isLike 42 = .ok (.if_icmp .ge 26, 3) := by decide +kernel
theorem dX2_isLike_45 : decode cX2_isLike 45 = .ok (.aload_n 0, 1) := by decide +kernel
theorem dX2_isLike_46 : decode cX2_isLike 46 = .ok (.iload_n 2, 1) := by decide +kernel
theorem dX2_isLike_47 : decode cX2_isLike 47 = .ok (.iload_n 3, 1) := by decide +kernel
theorem dX2_isLike_48 : decode cX2_isLike 48 = .ok (.invokevirtual 42, 3) := by decide +kernel
theorem dX2_isLike_51 : decode cX2_isLike 51 = .ok (.aload_n 1, 1) := by decide +kernel
theorem dX2_isLike_52 : decode cX2_isLike 52 = .ok (.iload_n 2, 1) := by decide +kernel
theorem dX2_isLike_53 : decode cX2_isLike 53 = .ok (.iload_n 3, 1) := by decide +kernel
theorem dX2_isLike_54 : decode cX2_isLike 54 = .ok (.invokevirtual 42, 3) := by decide +kernel
theorem dX2_isLike_57 : decode cX2_isLike 57 = .ok (.if_icmp .eq 5, 3) := by decide +kernel
theorem dX2_isLike_60 : decode cX2_isLike 60 = .ok (.iconst 0, 1) := by decide +kernel
theorem dX2_isLike_61 : decode cX2_isLike 61 = .ok (.ireturn, 1) := by decide +kernel
theorem dX2_isLike_62 : decode cX2_isLike 62 = .ok (.iinc 3 1, 3) := by decide +kernel
theorem dX2_isLike_65 : decode cX2_isLike 65 = .ok (.goto (-30), 3) := by decide +kernel
theorem dX2_isLike_68 : decode cX2_isLike 68 = .ok (.iconst 1, 1) := by decide +kernel
theorem dX2_isLike_69 : decode cX2_isLike 69 = .ok (.ireturn, 1) := by decide +kernel
theorem wNames_isLike_35 (l : Launch) (G : zG) : ∀ (fuel : Nat) (c0 : Nat) (hc0 : zN c0) (c1 : Nat) (hc1 : zN c1) (v2 : Int32) (v3 : Int32) (M : zM), zV eI l G zLX zRX 2 yX2_isLike cX2_isLike 4 (some .boolean) 35 [(0, .ref c0), (1, .ref c1), (2, .int v2), (3, .int v3)] [] M (fNames_isLike_35 fuel c0 c1 v2 v3 M) := by
  intro fuel
  induction fuel with
  | zero => intro c0 hc0 c1 hc1 v2 v3 M; exact v_none
  | succ fuel ih =>
    intro c0 hc0 c1 hc1 v2 v3 M
    rw [fNames_isLike_35]
    refine v_iload_n (pc := 35) dX2_isLike_35 rfl ?_
    refine v_aload_n (pc := 36) dX2_isLike_36 rfl ?_
    refine v_getR (pc := 37) (q := 3) zk2 hc0.1 rfl hc0.2.2.2.1 tw_234 dX2_isLike_37 ?_
    refine v_iload_n (pc := 40) dX2_isLike_40 rfl ?_
    refine v_iald (pc := 41) hc0.2.1 dX2_isLike_41 (fun x1 => ?_)
    refine v_icmp_ge (pc := 42) 68 dX2_isLike_42 (by decide) ?_ ?_
    · refine v_iconst (pc := 68) 1 dX2_isLike_68 (by decide) ?_
      exact v_zret (pc := 69) dX2_isLike_69
    · refine v_aload_n (pc := 45) dX2_isLike_45 rfl ?_
      refine v_iload_n (pc := 46) dX2_isLike_46 rfl ?_
      refine v_iload_n (pc := 47) dX2_isLike_47 rfl ?_
      refine v_callV (pc := 48) (As := [.int v2, .int v3]) (cNames_number l G c0 hc0 v2 v3 M) zc_X2_number zk2 rfl hc0.1 tw_622 (by decide) (Nat.le_of_ble_eq_true rfl) dX2_isLike_48 (fun r3 M2 => ?_)
      refine v_aload_n (pc := 51) dX2_isLike_51 rfl ?_
      refine v_iload_n (pc := 52) dX2_isLike_52 rfl ?_
      refine v_iload_n (pc := 53) dX2_isLike_53 rfl ?_
      refine v_callV (pc := 54) (As := [.int v2, .int v3]) (cNames_number l G c1 hc1 v2 v3 M2) zc_X2_number zk2 rfl hc1.1 tw_622 (by decide) (Nat.le_of_ble_eq_true rfl) dX2_isLike_54 (fun r5 M4 => ?_)
      refine v_icmp_eq (pc := 57) 62 dX2_isLike_57 (by decide) ?_ ?_
      · refine v_iinc (pc := 62) 1 dX2_isLike_62 rfl (by decide) (by decide) ?_
        refine v_goto (pc := 65) 35 dX2_isLike_65 (by decide) ?_
        exact v_sub (ih c0 hc0 c1 hc1 v2 (v3 + 1) M4) rfl
      · refine v_iconst (pc := 60) 0 dX2_isLike_60 (by decide) ?_
        exact v_zret (pc := 61) dX2_isLike_61
theorem wNames_isLike (l : Launch) (G : zG) (c0 : Nat) (hc0 : zN c0) (c1 : Nat) (hc1 : zN c1) (v2 : Int32) (M : zM) : zV eI l G zLX zRX 2 yX2_isLike cX2_isLike 4 (some .boolean) 0 [(0, .ref c0), (1, .ref c1), (2, .int v2)] [] M (fNames_isLike c0 c1 v2 M) := by
  rw [fNames_isLike]
  refine v_iload_n (pc := 0) dX2_isLike_0 rfl ?_
  refine v_aload_n (pc := 1) dX2_isLike_1 rfl ?_
  refine v_getI (pc := 2) (q := 2) zk2 hc0.1 rfl tw_232 dX2_isLike_2 ?_
  refine v_icmp_ge (pc := 5) 31 dX2_isLike_5 (by decide) ?_ ?_
  · refine v_iconst (pc := 31) 0 dX2_isLike_31 (by decide) ?_
    exact v_zret (pc := 32) dX2_isLike_32
  · refine v_iload_n (pc := 8) dX2_isLike_8 rfl ?_
    refine v_aload_n (pc := 9) dX2_isLike_9 rfl ?_
    refine v_getI (pc := 10) (q := 2) zk2 hc1.1 rfl tw_232 dX2_isLike_10 ?_
    refine v_icmp_ge (pc := 13) 31 dX2_isLike_13 (by decide) ?_ ?_
    · refine v_iconst (pc := 31) 0 dX2_isLike_31 (by decide) ?_
      exact v_zret (pc := 32) dX2_isLike_32
    · refine v_aload_n (pc := 16) dX2_isLike_16 rfl ?_
      refine v_getR (pc := 17) (q := 3) zk2 hc0.1 rfl hc0.2.2.2.1 tw_234 dX2_isLike_17 ?_
      refine v_iload_n (pc := 20) dX2_isLike_20 rfl ?_
      refine v_iald (pc := 21) hc0.2.1 dX2_isLike_21 (fun x1 => ?_)
      refine v_aload_n (pc := 22) dX2_isLike_22 rfl ?_
      refine v_getR (pc := 23) (q := 3) zk2 hc1.1 rfl hc1.2.2.2.1 tw_234 dX2_isLike_23 ?_
      refine v_iload_n (pc := 26) dX2_isLike_26 rfl ?_
      refine v_iald (pc := 27) hc1.2.1 dX2_isLike_27 (fun x2 => ?_)
      refine v_icmp_eq (pc := 28) 33 dX2_isLike_28 (by decide) ?_ ?_
      · refine v_iconst (pc := 33) 0 dX2_isLike_33 (by decide) ?_
        refine v_istore_n (pc := 34) dX2_isLike_34 (by decide) ?_
        exact v_sub (wNames_isLike_35 l G FU c0 hc0 c1 hc1 v2 0 M) rfl
      · refine v_iconst (pc := 31) 0 dX2_isLike_31 (by decide) ?_
        exact v_zret (pc := 32) dX2_isLike_32
theorem cNames_isLike (l : Launch) (G : zG) (c0 : Nat) (hc0 : zN c0) (c1 : Nat) (hc1 : zN c1) (v2 : Int32) (M : zM) : zC eI l G zLX zRX 2 yX2_isLike cX2_isLike 4 (some .boolean) [.ref c0, .ref c1, .int v2] M (fNames_isLike c0 c1 v2 M) := zC.of (by decide) (Nat.le_of_ble_eq_true rfl) (v_sub (wNames_isLike l G c0 hc0 c1 hc1 v2 M) rfl)
theorem dX2_isAbove_0 : decode cX2_isAbove 0 = .ok (.aload_n 0, 1) := by decide +kernel
theorem dX2_isAbove_1 : decode cX2_isAbove 1 = .ok (.iload_n 2, 1) := by decide +kernel
theorem dX2_isAbove_2 : decode cX2_isAbove 2 = .ok (.iconst 0, 1) := by decide +kernel
theorem dX2_isAbove_3 : decode cX2_isAbove 3 = .ok (.invokevirtual 42, 3) := by decide +kernel
theorem dX2_isAbove_6 : decode cX2_isAbove 6 = .ok (.istore_n 3, 1) := by decide +kernel
theorem dX2_isAbove_7 : decode cX2_isAbove 7 = .ok (.iload_n 3, 1) := by decide +kernel
theorem dX2_isAbove_8 : decode cX2_isAbove 8 = .ok (.aload_n 0, 1) := by decide +kernel
theorem dX2_isAbove_9 : decode cX2_isAbove 9 = .ok (.iload_n 1, 1) := by decide +kernel
theorem dX2_isAbove_10 : decode cX2_isAbove 10 = .ok (.iconst 0, 1) := by decide +kernel
theorem dX2_isAbove_11 : decode cX2_isAbove 11 = .ok (.invokevirtual 42, 3) := by decide +kernel
theorem dX2_isAbove_14 : decode cX2_isAbove 14 = .ok (.if_icmp .lt 17, 3) := by decide +kernel
theorem dX2_isAbove_17 : decode cX2_isAbove 17 = .ok (.iload_n 3, 1) := by decide +kernel
theorem dX2_isAbove_18 : decode cX2_isAbove 18 = .ok (.aload_n 0, 1) := by decide +kernel
theorem dX2_isAbove_19 : decode cX2_isAbove 19 = .ok (.iload_n 1, 1) := by decide +kernel
theorem dX2_isAbove_20 : decode cX2_isAbove 20 = .ok (.iconst 1, 1) := by decide +kernel
theorem dX2_isAbove_21 : decode cX2_isAbove 21 = .ok (.invokevirtual 42, 3) := by decide +kernel
theorem dX2_isAbove_24 : decode cX2_isAbove 24 = .ok (.if_icmp .gt 7, 3) := by decide +kernel
theorem dX2_isAbove_27 : decode cX2_isAbove 27 = .ok (.iconst 1, 1) := by decide +kernel
theorem dX2_isAbove_28 : decode cX2_isAbove 28 = .ok (.goto 4, 3) := by decide +kernel
theorem dX2_isAbove_31 : decode cX2_isAbove 31 = .ok (.iconst 0, 1) := by decide +kernel
theorem dX2_isAbove_32 : decode cX2_isAbove 32 = .ok (.ireturn, 1) := by decide +kernel
theorem wNames_isAbove (l : Launch) (G : zG) (c0 : Nat) (hc0 : zN c0) (v1 : Int32) (v2 : Int32) (M : zM) : zV eI l G zLX zRX 2 yX2_isAbove cX2_isAbove 4 (some .boolean) 0 [(0, .ref c0), (1, .int v1), (2, .int v2)] [] M (fNames_isAbove c0 v1 v2 M) := by
  rw [fNames_isAbove]
  refine v_aload_n (pc := 0) dX2_isAbove_0 rfl ?_
  refine v_iload_n (pc := 1) dX2_isAbove_1 rfl ?_
  refine v_iconst (pc := 2) 0 dX2_isAbove_2 (by decide) ?_
  refine v_callV (pc := 3) (As := [.int v2, .int 0]) (cNames_number l G c0 hc0 v2 0 M) zc_X2_number zk2 rfl hc0.1 tw_622 (by decide) (Nat.le_of_ble_eq_true rfl) dX2_isAbove_3 (fun r2 M1 => ?_)
  refine v_istore_n (pc := 6) dX2_isAbove_6 (by decide) ?_
  refine v_iload_n (pc := 7) dX2_isAbove_7 rfl ?_
  refine v_aload_n (pc := 8) dX2_isAbove_8 rfl ?_
  refine v_iload_n (pc := 9) dX2_isAbove_9 rfl ?_
  refine v_iconst (pc := 10) 0 dX2_isAbove_10 (by decide) ?_
  refine v_callV (pc := 11) (As := [.int v1, .int 0]) (cNames_number l G c0 hc0 v1 0 M1) zc_X2_number zk2 rfl hc0.1 tw_622 (by decide) (Nat.le_of_ble_eq_true rfl) dX2_isAbove_11 (fun r4 M3 => ?_)
  refine v_icmp_lt (pc := 14) 31 dX2_isAbove_14 (by decide) ?_ ?_
  · refine v_iconst (pc := 31) 0 dX2_isAbove_31 (by decide) ?_
    exact v_zret (pc := 32) dX2_isAbove_32
  · refine v_iload_n (pc := 17) dX2_isAbove_17 rfl ?_
    refine v_aload_n (pc := 18) dX2_isAbove_18 rfl ?_
    refine v_iload_n (pc := 19) dX2_isAbove_19 rfl ?_
    refine v_iconst (pc := 20) 1 dX2_isAbove_20 (by decide) ?_
    refine v_callV (pc := 21) (As := [.int v1, .int 1]) (cNames_number l G c0 hc0 v1 1 M3) zc_X2_number zk2 rfl hc0.1 tw_622 (by decide) (Nat.le_of_ble_eq_true rfl) dX2_isAbove_21 (fun r6 M5 => ?_)
    refine v_icmp_gt (pc := 24) 31 dX2_isAbove_24 (by decide) ?_ ?_
    · refine v_iconst (pc := 31) 0 dX2_isAbove_31 (by decide) ?_
      exact v_zret (pc := 32) dX2_isAbove_32
    · refine v_iconst (pc := 27) 1 dX2_isAbove_27 (by decide) ?_
      refine v_goto (pc := 28) 32 dX2_isAbove_28 (by decide) ?_
      exact v_zret (pc := 32) dX2_isAbove_32
theorem cNames_isAbove (l : Launch) (G : zG) (c0 : Nat) (hc0 : zN c0) (v1 : Int32) (v2 : Int32) (M : zM) : zC eI l G zLX zRX 2 yX2_isAbove cX2_isAbove 4 (some .boolean) [.ref c0, .int v1, .int v2] M (fNames_isAbove c0 v1 v2 M) := zC.of (by decide) (Nat.le_of_ble_eq_true rfl) (v_sub (wNames_isAbove l G c0 hc0 v1 v2 M) rfl)
theorem dX2_standsBehind_0 : decode cX2_standsBehind 0 = .ok (.aload_n 0, 1) := by decide +kernel
theorem dX2_standsBehind_1 : decode cX2_standsBehind 1 = .ok (.iload_n 1, 1) := by decide +kernel
theorem dX2_standsBehind_2 : decode cX2_standsBehind 2 = .ok (.iconst 0, 1) := by decide +kernel
theorem dX2_standsBehind_3 : decode cX2_standsBehind 3 = .ok (.invokevirtual 42, 3) := by decide +kernel
theorem dX2_standsBehind_6 : decode cX2_standsBehind 6 = .ok (.istore_n 3, 1) := by decide +kernel
theorem dX2_standsBehind_7 : decode cX2_standsBehind 7 = .ok (.iconst 1, 1) := by decide +kernel
theorem dX2_standsBehind_8 : decode cX2_standsBehind 8 = .ok (.istore 4, 2) := by decide +kernel
theorem dX2_standsBehind_10 : decode cX2_standsBehind 10 = .ok (.iload 4, 2) := by decide +kernel
theorem dX2_standsBehind_12 : decode cX2_standsBehind 12 = .ok (.aload_n 0, 1) := by decide +kernel
theorem dX2_standsBehind_13 : decode cX2_standsBehind 13 = .ok (.getfield 15, 3) := by decide +kernel
theorem dX2_standsBehind_16 : decode cX2_standsBehind 16 = .ok (.iload_n 2, 1) := by decide +kernel
theorem dX2_standsBehind_17 : decode cX2_standsBehind 17 = .ok (.iaload, 1) := by decide +kernel
theorem dX2_standsBehind_18 : decode cX2_standsBehind 18 = .ok (.if_icmp .ge 22, 3) := by decide +kernel
theorem dX2_standsBehind_21 : decode cX2_standsBehind 21 = .ok (.aload_n 0, 1) := by decide +kernel
theorem dX2_standsBehind_22 : decode cX2_standsBehind 22 = .ok (.iload_n 2, 1) := by decide +kernel
theorem dX2_standsBehind_23 : decode cX2_standsBehind 23 = .ok (.iload 4, 2) := by decide +kernel
theorem dX2_standsBehind_25 : decode cX2_standsBehind 25 = .ok (.invokevirtual 42, 3) := by decide +kernel
theorem dX2_standsBehind_28 : decode cX2_standsBehind 28 = .ok (.iload_n 3, 1) := by decide +kernel
theorem dX2_standsBehind_29 : decode cX2_standsBehind 29 = .ok (.if_icmp .ne 5, 3) := by decide +kernel
theorem dX2_standsBehind_32 : decode cX2_standsBehind 32 = .ok (.iconst 1, 1) := by decide +kernel
theorem dX2_standsBehind_33 : decode cX2_standsBehind 33 = .ok (.ireturn, 1) := by decide +kernel
theorem dX2_standsBehind_34 : decode cX2_standsBehind 34 = .ok (.iinc 4 1, 3) := by decide +kernel
theorem dX2_standsBehind_37 : decode cX2_standsBehind 37 = .ok (.goto (-27), 3) := by decide +kernel
theorem dX2_standsBehind_40 : decode cX2_standsBehind 40 = .ok (.iconst 0, 1) := by decide +kernel
theorem dX2_standsBehind_41 : decode cX2_standsBehind 41 = .ok (.ireturn, 1) := by decide +kernel
theorem wNames_standsBehind_10 (l : Launch) (G : zG) : ∀ (fuel : Nat) (c0 : Nat) (hc0 : zN c0) (v2 : Int32) (v3 : Int32) (v4 : Int32) (M : zM), zV eI l G zLX zRX 2 yX2_standsBehind cX2_standsBehind 5 (some .boolean) 10 [(0, .ref c0), (2, .int v2), (3, .int v3), (4, .int v4)] [] M (fNames_standsBehind_10 fuel c0 v2 v3 v4 M) := by
  intro fuel
  induction fuel with
  | zero => intro c0 hc0 v2 v3 v4 M; exact v_none
  | succ fuel ih =>
    intro c0 hc0 v2 v3 v4 M
    rw [fNames_standsBehind_10]
    refine v_iload (pc := 10) dX2_standsBehind_10 rfl ?_
    refine v_aload_n (pc := 12) dX2_standsBehind_12 rfl ?_
    refine v_getR (pc := 13) (q := 3) zk2 hc0.1 rfl hc0.2.2.2.1 tw_234 dX2_standsBehind_13 ?_
    refine v_iload_n (pc := 16) dX2_standsBehind_16 rfl ?_
    refine v_iald (pc := 17) hc0.2.1 dX2_standsBehind_17 (fun x1 => ?_)
    refine v_icmp_ge (pc := 18) 40 dX2_standsBehind_18 (by decide) ?_ ?_
    · refine v_iconst (pc := 40) 0 dX2_standsBehind_40 (by decide) ?_
      exact v_zret (pc := 41) dX2_standsBehind_41
    · refine v_aload_n (pc := 21) dX2_standsBehind_21 rfl ?_
      refine v_iload_n (pc := 22) dX2_standsBehind_22 rfl ?_
      refine v_iload (pc := 23) dX2_standsBehind_23 rfl ?_
      refine v_callV (pc := 25) (As := [.int v2, .int v4]) (cNames_number l G c0 hc0 v2 v4 M) zc_X2_number zk2 rfl hc0.1 tw_622 (by decide) (Nat.le_of_ble_eq_true rfl) dX2_standsBehind_25 (fun r3 M2 => ?_)
      refine v_iload_n (pc := 28) dX2_standsBehind_28 rfl ?_
      refine v_icmp_ne (pc := 29) 34 dX2_standsBehind_29 (by decide) ?_ ?_
      · refine v_iinc (pc := 34) 1 dX2_standsBehind_34 rfl (by decide) (by decide) ?_
        refine v_goto (pc := 37) 10 dX2_standsBehind_37 (by decide) ?_
        exact v_sub (ih c0 hc0 v2 v3 (v4 + 1) M2) rfl
      · refine v_iconst (pc := 32) 1 dX2_standsBehind_32 (by decide) ?_
        exact v_zret (pc := 33) dX2_standsBehind_33
theorem wNames_standsBehind (l : Launch) (G : zG) (c0 : Nat) (hc0 : zN c0) (v1 : Int32) (v2 : Int32) (M : zM) : zV eI l G zLX zRX 2 yX2_standsBehind cX2_standsBehind 5 (some .boolean) 0 [(0, .ref c0), (1, .int v1), (2, .int v2)] [] M (fNames_standsBehind c0 v1 v2 M) := by
  rw [fNames_standsBehind]
  refine v_aload_n (pc := 0) dX2_standsBehind_0 rfl ?_
  refine v_iload_n (pc := 1) dX2_standsBehind_1 rfl ?_
  refine v_iconst (pc := 2) 0 dX2_standsBehind_2 (by decide) ?_
  refine v_callV (pc := 3) (As := [.int v1, .int 0]) (cNames_number l G c0 hc0 v1 0 M) zc_X2_number zk2 rfl hc0.1 tw_622 (by decide) (Nat.le_of_ble_eq_true rfl) dX2_standsBehind_3 (fun r2 M1 => ?_)
  refine v_istore_n (pc := 6) dX2_standsBehind_6 (by decide) ?_
  refine v_iconst (pc := 7) 1 dX2_standsBehind_7 (by decide) ?_
  refine v_istore (pc := 8) dX2_standsBehind_8 (by decide) ?_
  exact v_sub (wNames_standsBehind_10 l G FU c0 hc0 v2 r2 1 M1) rfl
theorem cNames_standsBehind (l : Launch) (G : zG) (c0 : Nat) (hc0 : zN c0) (v1 : Int32) (v2 : Int32) (M : zM) : zC eI l G zLX zRX 2 yX2_standsBehind cX2_standsBehind 5 (some .boolean) [.ref c0, .int v1, .int v2] M (fNames_standsBehind c0 v1 v2 M) := zC.of (by decide) (Nat.le_of_ble_eq_true rfl) (v_sub (wNames_standsBehind l G c0 hc0 v1 v2 M) rfl)
theorem dX2_reply_0 : decode cX2_reply 0 = .ok (.aload_n 0, 1) := by decide +kernel
theorem dX2_reply_1 : decode cX2_reply 1 = .ok (.getfield 19, 3) := by decide +kernel
theorem dX2_reply_4 : decode cX2_reply 4 = .ok (.ifCond .ne 18, 3) := by decide +kernel
theorem dX2_reply_7 : decode cX2_reply 7 = .ok (.aload_n 0, 1) := by decide +kernel
theorem dX2_reply_8 : decode cX2_reply 8 = .ok (.iload_n 1, 1) := by decide +kernel
theorem dX2_reply_9 : decode cX2_reply 9 = .ok (.iload_n 2, 1) := by decide +kernel
theorem dX2_reply_10 : decode cX2_reply 10 = .ok (.invokevirtual 50, 3) := by decide +kernel
theorem dX2_reply_13 : decode cX2_reply 13 = .ok (.ifCond .eq 7, 3) := by decide +kernel
theorem dX2_reply_16 : decode cX2_reply 16 = .ok (.iconst 1, 1) := by decide +kernel
theorem dX2_reply_17 : decode cX2_reply 17 = .ok (.goto 4, 3) := by decide +kernel
theorem dX2_reply_20 : decode cX2_reply 20 = .ok (.iconst 0, 1) := by decide +kernel
theorem dX2_reply_21 : decode cX2_reply 21 = .ok (.ireturn, 1) := by decide +kernel
theorem dX2_reply_22 : decode cX2_reply 22 = .ok (.aload_n 0, 1) := by decide +kernel
theorem dX2_reply_23 : decode cX2_reply 23 = .ok (.getfield 19, 3) := by decide +kernel
theorem dX2_reply_26 : decode cX2_reply 26 = .ok (.iconst 1, 1) := by decide +kernel
theorem dX2_reply_27 : decode cX2_reply 27 = .ok (.if_icmp .ne 27, 3) := by decide +kernel
theorem dX2_reply_30 : decode cX2_reply 30 = .ok (.aload_n 0, 1) := by decide +kernel
theorem dX2_reply_31 : decode cX2_reply 31 = .ok (.iload_n 1, 1) := by decide +kernel
theorem dX2_reply_32 : decode cX2_reply 32 = .ok (.iload_n 2, 1) := by decide +kernel
theorem dX2_reply_33 : decode cX2_reply 33 = .ok (.invokevirtual 53, 3) := by decide +kernel
theorem dX2_reply_36 : decode cX2_reply 36 = .ok (.ifCond .ne 12, 3) := by decide +kernel
theorem dX2_reply_39 : decode cX2_reply 39 = .ok (.aload_n 0, 1) := by decide +kernel
theorem dX2_reply_40 : decode cX2_reply 40 = .ok (.iload_n 2, 1) := by decide +kernel
theorem dX2_reply_41 : decode cX2_reply 41 = .ok (.iload_n 1, 1) := by decide +kernel
theorem dX2_reply_42 : decode cX2_reply 42 = .ok (.invokevirtual 53, 3) := by decide +kernel
theorem dX2_reply_45 : decode cX2_reply 45 = .ok (.ifCond .eq 7, 3) := by decide +kernel
theorem dX2_reply_48 : decode cX2_reply 48 = .ok (.iconst 1, 1) := by decide +kernel
theorem dX2_reply_49 : decode cX2_reply 49 = .ok (.goto 4, 3) := by decide +kernel
theorem dX2_reply_52 : decode cX2_reply 52 = .ok (.iconst 0, 1) := by decide +kernel
theorem dX2_reply_53 : decode cX2_reply 53 = .ok (.ireturn, 1) := by decide +kernel
theorem dX2_reply_54 : decode cX2_reply 54 = .ok (.aload_n 0, 1) := by decide +kernel
theorem dX2_reply_55 : decode cX2_reply 55 = .ok (.iload_n 1, 1) := by decide +kernel
theorem dX2_reply_56 : decode cX2_reply 56 = .ok (.iload_n 2, 1) := by decide +kernel
theorem dX2_reply_57 : decode cX2_reply 57 = .ok (.invokevirtual 56, 3) := by decide +kernel
theorem dX2_reply_60 : decode cX2_reply 60 = .ok (.ireturn, 1) := by decide +kernel
theorem wNames_reply (l : Launch) (G : zG) (c0 : Nat) (hc0 : zN c0) (v1 : Int32) (v2 : Int32) (M : zM) : zV eI l G zLX zRX 3 yX2_reply cX2_reply 3 (some .int) 0 [(0, .ref c0), (1, .int v1), (2, .int v2)] [] M (fNames_reply c0 v1 v2 M) := by
  rw [fNames_reply]
  refine v_aload_n (pc := 0) dX2_reply_0 rfl ?_
  refine v_getI (pc := 1) (q := 0) zk2 hc0.1 rfl tw_230 dX2_reply_1 ?_
  refine v_if_ne (pc := 4) 22 dX2_reply_4 (by decide) ?_ ?_
  · refine v_aload_n (pc := 22) dX2_reply_22 rfl ?_
    refine v_getI (pc := 23) (q := 0) zk2 hc0.1 rfl tw_230 dX2_reply_23 ?_
    refine v_iconst (pc := 26) 1 dX2_reply_26 (by decide) ?_
    refine v_icmp_ne (pc := 27) 54 dX2_reply_27 (by decide) ?_ ?_
    · refine v_aload_n (pc := 54) dX2_reply_54 rfl ?_
      refine v_iload_n (pc := 55) dX2_reply_55 rfl ?_
      refine v_iload_n (pc := 56) dX2_reply_56 rfl ?_
      refine v_callV (pc := 57) (As := [.int v1, .int v2]) (cNames_distance l G c0 hc0 v1 v2 M) zc_X2_distance zk2 rfl hc0.1 tw_670 (by decide) (Nat.le_of_ble_eq_true rfl) dX2_reply_57 (fun r2 M1 => ?_)
      exact v_iret (pc := 60) dX2_reply_60
    · refine v_aload_n (pc := 30) dX2_reply_30 rfl ?_
      refine v_iload_n (pc := 31) dX2_reply_31 rfl ?_
      refine v_iload_n (pc := 32) dX2_reply_32 rfl ?_
      refine v_callV (pc := 33) (As := [.int v1, .int v2]) (cNames_standsBehind l G c0 hc0 v1 v2 M) zc_X2_standsBehind zk2 rfl hc0.1 tw_666 (by decide) (Nat.le_of_ble_eq_true rfl) dX2_reply_33 (fun r4 M3 => ?_)
      refine v_if_ne (pc := 36) 48 dX2_reply_36 (by decide) ?_ ?_
      · refine v_iconst (pc := 48) 1 dX2_reply_48 (by decide) ?_
        refine v_goto (pc := 49) 53 dX2_reply_49 (by decide) ?_
        exact v_iret (pc := 53) dX2_reply_53
      · refine v_aload_n (pc := 39) dX2_reply_39 rfl ?_
        refine v_iload_n (pc := 40) dX2_reply_40 rfl ?_
        refine v_iload_n (pc := 41) dX2_reply_41 rfl ?_
        refine v_callV (pc := 42) (As := [.int v2, .int v1]) (cNames_standsBehind l G c0 hc0 v2 v1 M3) zc_X2_standsBehind zk2 rfl hc0.1 tw_666 (by decide) (Nat.le_of_ble_eq_true rfl) dX2_reply_42 (fun r6 M5 => ?_)
        refine v_if_eq (pc := 45) 52 dX2_reply_45 (by decide) ?_ ?_
        · refine v_iconst (pc := 52) 0 dX2_reply_52 (by decide) ?_
          exact v_iret (pc := 53) dX2_reply_53
        · refine v_iconst (pc := 48) 1 dX2_reply_48 (by decide) ?_
          refine v_goto (pc := 49) 53 dX2_reply_49 (by decide) ?_
          exact v_iret (pc := 53) dX2_reply_53
  · refine v_aload_n (pc := 7) dX2_reply_7 rfl ?_
    refine v_iload_n (pc := 8) dX2_reply_8 rfl ?_
    refine v_iload_n (pc := 9) dX2_reply_9 rfl ?_
    refine v_callV (pc := 10) (As := [.int v1, .int v2]) (cNames_isAbove l G c0 hc0 v1 v2 M) zc_X2_isAbove zk2 rfl hc0.1 tw_662 (by decide) (Nat.le_of_ble_eq_true rfl) dX2_reply_10 (fun r8 M7 => ?_)
    refine v_if_eq (pc := 13) 20 dX2_reply_13 (by decide) ?_ ?_
    · refine v_iconst (pc := 20) 0 dX2_reply_20 (by decide) ?_
      exact v_iret (pc := 21) dX2_reply_21
    · refine v_iconst (pc := 16) 1 dX2_reply_16 (by decide) ?_
      refine v_goto (pc := 17) 21 dX2_reply_17 (by decide) ?_
      exact v_iret (pc := 21) dX2_reply_21
theorem cNames_reply (l : Launch) (G : zG) (c0 : Nat) (hc0 : zN c0) (v1 : Int32) (v2 : Int32) (M : zM) : zC eI l G zLX zRX 3 yX2_reply cX2_reply 3 (some .int) [.ref c0, .int v1, .int v2] M (fNames_reply c0 v1 v2 M) := zC.of (by decide) (Nat.le_of_ble_eq_true rfl) (v_sub (wNames_reply l G c0 hc0 v1 v2 M) rfl)
