theorem dX10_here_0 : decode cX10_here 0 = .ok (.aload_n 0, 1) := by decide +kernel
theorem dX10_here_1 : decode cX10_here 1 = .ok (.getfield 263, 3) := by decide +kernel
theorem dX10_here_4 : decode cX10_here 4 = .ok (.aload_n 0, 1) := by decide +kernel
theorem dX10_here_5 : decode cX10_here 5 = .ok (.getfield 174, 3) := by decide +kernel
theorem dX10_here_8 : decode cX10_here 8 = .ok (.if_icmp .ge 30, 3) := by decide +kernel
theorem dX10_here_11 : decode cX10_here 11 = .ok (.aload_n 0, 1) := by decide +kernel
theorem dX10_here_12 : decode cX10_here 12 = .ok (.getfield 83, 3) := by decide +kernel
theorem dX10_here_15 : decode cX10_here 15 = .ok (.aload_n 0, 1) := by decide +kernel
theorem dX10_here_16 : decode cX10_here 16 = .ok (.getfield 263, 3) := by decide +kernel
theorem dX10_here_19 : decode cX10_here 19 = .ok (.iaload, 1) := by decide +kernel
theorem dX10_here_20 : decode cX10_here 20 = .ok (.bipush 32, 2) := by decide +kernel
theorem dX10_here_22 : decode cX10_here 22 = .ok (.if_icmp .ne 16, 3) := by decide +kernel
theorem dX10_here_25 : decode cX10_here 25 = .ok (.aload_n 0, 1) := by decide +kernel
theorem dX10_here_26 : decode cX10_here 26 = .ok (.dup, 1) := by decide +kernel
theorem dX10_here_27 : decode cX10_here 27 = .ok (.getfield 263, 3) := by decide +kernel
theorem dX10_here_30 : decode cX10_here 30 = .ok (.iconst 1, 1) := by decide +kernel
theorem dX10_here_31 : decode cX10_here 31 = .ok (.iadd, 1) := by decide +kernel
theorem dX10_here_32 : decode cX10_here 32 = .ok (.putfield 263, 3) := by decide +kernel
theorem dX10_here_35 : decode cX10_here 35 = .ok (.goto (-35), 3) := by decide +kernel
theorem dX10_here_38 : decode cX10_here 38 = .ok (.aload_n 0, 1) := by decide +kernel
theorem dX10_here_39 : decode cX10_here 39 = .ok (.getfield 263, 3) := by decide +kernel
theorem dX10_here_42 : decode cX10_here 42 = .ok (.aload_n 0, 1) := by decide +kernel
theorem dX10_here_43 : decode cX10_here 43 = .ok (.getfield 174, 3) := by decide +kernel
theorem dX10_here_46 : decode cX10_here 46 = .ok (.if_icmp .ge 15, 3) := by decide +kernel
theorem dX10_here_49 : decode cX10_here 49 = .ok (.aload_n 0, 1) := by decide +kernel
theorem dX10_here_50 : decode cX10_here 50 = .ok (.getfield 83, 3) := by decide +kernel
theorem dX10_here_53 : decode cX10_here 53 = .ok (.aload_n 0, 1) := by decide +kernel
theorem dX10_here_54 : decode cX10_here 54 = .ok (.getfield 263, 3) := by decide +kernel
theorem dX10_here_57 : decode cX10_here 57 = .ok (.iaload, 1) := by decide +kernel
theorem dX10_here_58 : decode cX10_here 58 = .ok (.goto 4, 3) := by decide +kernel
theorem dX10_here_61 : decode cX10_here 61 = .ok (.iconst (-1), 1) := by decide +kernel
theorem dX10_here_62 : decode cX10_here 62 = .ok (.ireturn, 1) := by decide +kernel
theorem wMd_here_38 (l : Launch) (G : zG)  (M : zM) : zV eI l G zLY zRY 1 yX10_here cX10_here 1 (some .int) 38 [(0, .ref 0)] [] M (fMd_here_38  M) := by
  rw [fMd_here_38]
  refine v_aload_n (pc := 38) dX10_here_38 rfl ?_
  refine v_getI (pc := 39) (q := 30) zk10 ly_0 rfl tw_1056 dX10_here_39 ?_
  refine v_aload_n (pc := 42) dX10_here_42 rfl ?_
  refine v_getI (pc := 43) (q := 29) zk10 ly_0 rfl tw_1055 dX10_here_43 ?_
  refine v_icmp_ge (pc := 46) 61 dX10_here_46 (by decide) ?_ ?_
  · refine v_iconst (pc := 61) (-1) dX10_here_61 (by decide) ?_
    exact v_iret (pc := 62) dX10_here_62
  · refine v_aload_n (pc := 49) dX10_here_49 rfl ?_
    refine v_getR (pc := 50) (q := 28) zk10 ly_0 rfl ry_0_28 tw_1054 dX10_here_50 ?_
    refine v_aload_n (pc := 53) dX10_here_53 rfl ?_
    refine v_getI (pc := 54) (q := 30) zk10 ly_0 rfl tw_1056 dX10_here_54 ?_
    refine v_iald (pc := 57) ly_25 dX10_here_57 (fun x1 => ?_)
    refine v_goto (pc := 58) 62 dX10_here_58 (by decide) ?_
    exact v_iret (pc := 62) dX10_here_62
theorem wMd_here_0 (l : Launch) (G : zG) : ∀ (fuel : Nat)  (M : zM), zV eI l G zLY zRY 1 yX10_here cX10_here 1 (some .int) 0 [(0, .ref 0)] [] M (fMd_here_0 fuel  M) := by
  intro fuel
  induction fuel with
  | zero => intro  M; exact v_none
  | succ fuel ih =>
    intro  M
    rw [fMd_here_0]
    refine v_aload_n (pc := 0) dX10_here_0 rfl ?_
    refine v_getI (pc := 1) (q := 30) zk10 ly_0 rfl tw_1056 dX10_here_1 ?_
    refine v_aload_n (pc := 4) dX10_here_4 rfl ?_
    refine v_getI (pc := 5) (q := 29) zk10 ly_0 rfl tw_1055 dX10_here_5 ?_
    refine v_icmp_ge (pc := 8) 38 dX10_here_8 (by decide) ?_ ?_
    · exact v_sub (wMd_here_38 l G  M) rfl
    · refine v_aload_n (pc := 11) dX10_here_11 rfl ?_
      refine v_getR (pc := 12) (q := 28) zk10 ly_0 rfl ry_0_28 tw_1054 dX10_here_12 ?_
      refine v_aload_n (pc := 15) dX10_here_15 rfl ?_
      refine v_getI (pc := 16) (q := 30) zk10 ly_0 rfl tw_1056 dX10_here_16 ?_
      refine v_iald (pc := 19) ly_25 dX10_here_19 (fun x1 => ?_)
      refine v_bipush (pc := 20) 32 dX10_here_20 (by decide) ?_
      refine v_icmp_ne (pc := 22) 38 dX10_here_22 (by decide) ?_ ?_
      · exact v_sub (wMd_here_38 l G  M) rfl
      · refine v_aload_n (pc := 25) dX10_here_25 rfl ?_
        refine v_dup (pc := 26) dX10_here_26 rfl ?_
        refine v_getI (pc := 27) (q := 30) zk10 ly_0 rfl tw_1056 dX10_here_27 ?_
        refine v_iconst (pc := 30) 1 dX10_here_30 (by decide) ?_
        refine v_iadd (pc := 31) dX10_here_31 ?_
        refine v_putI (pc := 32) (q := 30) zk10 ly_0 rfl tw_1056 rfl rfl rfl dX10_here_32 (fun M2 => ?_)
        refine v_goto (pc := 35) 0 dX10_here_35 (by decide) ?_
        exact v_sub (ih  M2) rfl
theorem wMd_here (l : Launch) (G : zG)  (M : zM) : zV eI l G zLY zRY 1 yX10_here cX10_here 1 (some .int) 0 [(0, .ref 0)] [] M (fMd_here  M) := wMd_here_0 l G FU  M
theorem cMd_here (l : Launch) (G : zG)  (M : zM) : zC eI l G zLY zRY 1 yX10_here cX10_here 1 (some .int) [.ref 0] M (fMd_here  M) := zC.of (by decide) (Nat.le_of_ble_eq_true rfl) (v_sub (wMd_here l G  M) rfl)
theorem dX10_want_0 : decode cX10_want 0 = .ok (.iload_n 1, 1) := by decide +kernel
theorem dX10_want_1 : decode cX10_want 1 = .ok (.ifCond .ne 20, 3) := by decide +kernel
theorem dX10_want_4 : decode cX10_want 4 = .ok (.aload_n 0, 1) := by decide +kernel
theorem dX10_want_5 : decode cX10_want 5 = .ok (.getfield 266, 3) := by decide +kernel
theorem dX10_want_8 : decode cX10_want 8 = .ok (.ifCond .ne 13, 3) := by decide +kernel
theorem dX10_want_11 : decode cX10_want 11 = .ok (.aload_n 0, 1) := by decide +kernel
theorem dX10_want_12 : decode cX10_want 12 = .ok (.iload_n 2, 1) := by decide +kernel
theorem dX10_want_13 : decode cX10_want 13 = .ok (.putfield 266, 3) := by decide +kernel
theorem dX10_want_16 : decode cX10_want 16 = .ok (.aload_n 0, 1) := by decide +kernel
theorem dX10_want_17 : decode cX10_want 17 = .ok (.iload_n 3, 1) := by decide +kernel
theorem dX10_want_18 : decode cX10_want 18 = .ok (.putfield 86, 3) := by decide +kernel
theorem dX10_want_21 : decode cX10_want 21 = .ok (.aload_n 0, 1) := by decide +kernel
theorem dX10_want_22 : decode cX10_want 22 = .ok (.getfield 266, 3) := by decide +kernel
theorem dX10_want_25 : decode cX10_want 25 = .ok (.ifCond .ne 7, 3) := by decide +kernel
theorem dX10_want_28 : decode cX10_want 28 = .ok (.iconst 1, 1) := by decide +kernel
theorem dX10_want_29 : decode cX10_want 29 = .ok (.goto 4, 3) := by decide +kernel
theorem dX10_want_32 : decode cX10_want 32 = .ok (.iconst 0, 1) := by decide +kernel
theorem dX10_want_33 : decode cX10_want 33 = .ok (.ireturn, 1) := by decide +kernel
theorem wMd_want_21 (l : Launch) (G : zG)  (M : zM) : zV eI l G zLY zRY 1 yX10_want cX10_want 4 (some .boolean) 21 [(0, .ref 0)] [] M (fMd_want_21  M) := by
  rw [fMd_want_21]
  refine v_aload_n (pc := 21) dX10_want_21 rfl ?_
  refine v_getI (pc := 22) (q := 31) zk10 ly_0 rfl tw_1057 dX10_want_22 ?_
  refine v_if_ne (pc := 25) 32 dX10_want_25 (by decide) ?_ ?_
  · refine v_iconst (pc := 32) 0 dX10_want_32 (by decide) ?_
    exact v_zret (pc := 33) dX10_want_33
  · refine v_iconst (pc := 28) 1 dX10_want_28 (by decide) ?_
    refine v_goto (pc := 29) 33 dX10_want_29 (by decide) ?_
    exact v_zret (pc := 33) dX10_want_33
theorem wMd_want (l : Launch) (G : zG) (v1 : Int32) (v2 : Int32) (v3 : Int32) (M : zM) : zV eI l G zLY zRY 1 yX10_want cX10_want 4 (some .boolean) 0 [(0, .ref 0), (1, .int v1), (2, .int v2), (3, .int v3)] [] M (fMd_want v1 v2 v3 M) := by
  rw [fMd_want]
  refine v_iload_n (pc := 0) dX10_want_0 rfl ?_
  refine v_if_ne (pc := 1) 21 dX10_want_1 (by decide) ?_ ?_
  · exact v_sub (wMd_want_21 l G  M) rfl
  · refine v_aload_n (pc := 4) dX10_want_4 rfl ?_
    refine v_getI (pc := 5) (q := 31) zk10 ly_0 rfl tw_1057 dX10_want_5 ?_
    refine v_if_ne (pc := 8) 21 dX10_want_8 (by decide) ?_ ?_
    · exact v_sub (wMd_want_21 l G  M) rfl
    · refine v_aload_n (pc := 11) dX10_want_11 rfl ?_
      refine v_iload_n (pc := 12) dX10_want_12 rfl ?_
      refine v_putI (pc := 13) (q := 31) zk10 ly_0 rfl tw_1057 rfl rfl rfl dX10_want_13 (fun M1 => ?_)
      refine v_aload_n (pc := 16) dX10_want_16 rfl ?_
      refine v_iload_n (pc := 17) dX10_want_17 rfl ?_
      refine v_putI (pc := 18) (q := 32) zk10 ly_0 rfl tw_1058 rfl rfl rfl dX10_want_18 (fun M2 => ?_)
      exact v_sub (wMd_want_21 l G  M2) rfl
theorem cMd_want (l : Launch) (G : zG) (v1 : Int32) (v2 : Int32) (v3 : Int32) (M : zM) : zC eI l G zLY zRY 1 yX10_want cX10_want 4 (some .boolean) [.ref 0, .int v1, .int v2, .int v3] M (fMd_want v1 v2 v3 M) := zC.of (by decide) (Nat.le_of_ble_eq_true rfl) (v_sub (wMd_want l G v1 v2 v3 M) rfl)
theorem dX10_isWord_0 : decode cX10_isWord 0 = .ok (.aload_n 0, 1) := by decide +kernel
theorem dX10_isWord_1 : decode cX10_isWord 1 = .ok (.getfield 269, 3) := by decide +kernel
theorem dX10_isWord_4 : decode cX10_isWord 4 = .ok (.iload_n 1, 1) := by decide +kernel
theorem dX10_isWord_5 : decode cX10_isWord 5 = .ok (.if_icmp .ne 7, 3) := by decide +kernel
theorem dX10_isWord_8 : decode cX10_isWord 8 = .ok (.iconst 1, 1) := by decide +kernel
theorem dX10_isWord_9 : decode cX10_isWord 9 = .ok (.goto 4, 3) := by decide +kernel
theorem dX10_isWord_12 : decode cX10_isWord 12 = .ok (.iconst 0, 1) := by decide +kernel
theorem dX10_isWord_13 : decode cX10_isWord 13 = .ok (.istore 8, 2) := by decide +kernel
theorem dX10_isWord_15 : decode cX10_isWord 15 = .ok (.iconst 0, 1) := by decide +kernel
theorem dX10_isWord_16 : decode cX10_isWord 16 = .ok (.istore 9, 2) := by decide +kernel
theorem dX10_isWord_18 : decode cX10_isWord 18 = .ok (.iload 9, 2) := by decide +kernel
theorem dX10_isWord_20 : decode cX10_isWord 20 = .ok (.iload_n 1, 1) := by decide +kernel
theorem dX10_isWord_21 : decode cX10_isWord 21 = .ok (.if_icmp .ge 90, 3) := by decide +kernel
theorem dX10_isWord_24 : decode cX10_isWord 24 = .ok (.iload 8, 2) := by decide +kernel
theorem dX10_isWord_26 : decode cX10_isWord 26 = .ok (.ifCond .eq 85, 3) := by decide +kernel
theorem dX10_isWord_29 : decode cX10_isWord 29 = .ok (.aload_n 0, 1) := by decide +kernel
theorem dX10_isWord_30 : decode cX10_isWord 30 = .ok (.getfield 83, 3) := by decide +kernel
theorem dX10_isWord_33 : decode cX10_isWord 33 = .ok (.aload_n 0, 1) := by decide +kernel
theorem dX10_isWord_34 : decode cX10_isWord 34 = .ok (.getfield 272, 3) := by decide +kernel
theorem dX10_isWord_37 : decode cX10_isWord 37 = .ok (.iload 9, 2) := by decide +kernel
theorem dX10_isWord_39 : decode cX10_isWord 39 = .ok (.iadd, 1) := by decide +kernel
theorem dX10_isWord_40 : decode cX10_isWord 40 = .ok (.iaload, 1) := by decide +kernel
theorem dX10_isWord_41 : decode cX10_isWord 41 = .ok (.iload 9, 2) := by decide +kernel
theorem dX10_isWord_43 : decode cX10_isWord 43 = .ok (.ifCond .ne 7, 3) := by decide +kernel
theorem dX10_isWord_46 : decode cX10_isWord 46 = .ok (.iload_n 2, 1) := by decide +kernel
theorem dX10_isWord_47 : decode cX10_isWord 47 = .ok (.goto 48, 3) := by decide +kernel
theorem dX10_isWord_50 : decode cX10_isWord 50 = .ok (.iload 9, 2) := by decide +kernel
theorem dX10_isWord_52 : decode cX10_isWord 52 = .ok (.iconst 1, 1) := by decide +kernel
theorem dX10_isWord_53 : decode cX10_isWord 53 = .ok (.if_icmp .ne 7, 3) := by decide +kernel
theorem dX10_isWord_56 : decode cX10_isWord 56 = .ok (.iload_n 3, 1) := by decide +kernel
theorem dX10_isWord_57 : decode cX10_isWord 57 = .ok (.goto 38, 3) := by decide +kernel
theorem dX10_isWord_60 : decode cX10_isWord 60 = .ok (.iload 9, 2) := by decide +kernel
theorem dX10_isWord_62 : decode cX10_isWord 62 = .ok (.iconst 2, 1) := by decide +kernel
theorem dX10_isWord_63 : decode cX10_isWord 63 = .ok (.if_icmp .ne 8, 3) := by decide +kernel
theorem dX10_isWord_66 : decode cX10_isWord 66 = .ok (.iload 4, 2) := by decide +kernel
theorem dX10_isWord_68 : decode cX10_isWord 68 = .ok (.goto 27, 3) := by decide +kernel
theorem dX10_isWord_71 : decode cX10_isWord 71 = .ok (.iload 9, 2) := by decide +kernel
theorem dX10_isWord_73 : decode cX10_isWord 73 = .ok (.iconst 3, 1) := by decide +kernel
theorem dX10_isWord_74 : decode cX10_isWord 74 = .ok (.if_icmp .ne 8, 3) := by decide +kernel
theorem dX10_isWord_77 : decode cX10_isWord 77 = .ok (.iload 5, 2) := by decide +kernel
theorem dX10_isWord_79 : decode cX10_isWord 79 = .ok (.goto 16, 3) := by decide +kernel
theorem dX10_isWord_82 : decode cX10_isWord 82 = .ok (.iload 9, 2) := by decide +kernel
theorem dX10_isWord_84 : decode cX10_isWord 84 = .ok (.iconst 4, 1) := by decide +kernel
theorem dX10_isWord_85 : decode cX10_isWord 85 = .ok (.if_icmp .ne 8, 3) := by decide +kernel
theorem dX10_isWord_88 : decode cX10_isWord 88 = .ok (.iload 6, 2) := by decide +kernel
theorem dX10_isWord_90 : decode cX10_isWord 90 = .ok (.goto 5, 3) := by decide +kernel
theorem dX10_isWord_93 : decode cX10_isWord 93 = .ok (.iload 7, 2) := by decide +kernel
theorem dX10_isWord_95 : decode cX10_isWord 95 = .ok (.if_icmp .ne 7, 3) := by decide +kernel
theorem dX10_isWord_98 : decode cX10_isWord 98 = .ok (.iconst 1, 1) := by decide +kernel
theorem dX10_isWord_99 : decode cX10_isWord 99 = .ok (.goto 4, 3) := by decide +kernel
theorem dX10_isWord_102 : decode cX10_isWord 102 = .ok (.iconst 0, 1) := by decide +kernel
theorem dX10_isWord_103 : decode cX10_isWord 103 = .ok (.istore 8, 2) := by decide +kernel
theorem dX10_isWord_105 : decode cX10_isWord 105 = .ok (.iinc 9 1, 3) := by decide +kernel
theorem dX10_isWord_108 : decode cX10_isWord 108 = .ok (.goto (-90), 3) := by decide +kernel
theorem dX10_isWord_111 : decode cX10_isWord 111 = .ok (.iload 8, 2) := by decide +kernel
theorem dX10_isWord_113 : decode cX10_isWord 113 = .ok (.ireturn, 1) := by decide +kernel
theorem wMd_isWord_95 (l : Launch) (G : zG) (k18 : Int32 → Int32 → Int32 → Int32 → Int32 → Int32 → Int32 → Int32 → Int32 → zM → Option (Int32 × zM)) (hk18 : ∀ (v1 : Int32) (v2 : Int32) (v3 : Int32) (v4 : Int32) (v5 : Int32) (v6 : Int32) (v7 : Int32) (v8 : Int32) (v9 : Int32) (M : zM), zV eI l G zLY zRY 1 yX10_isWord cX10_isWord 10 (some .boolean) 18 [(0, .ref 0), (1, .int v1), (2, .int v2), (3, .int v3), (4, .int v4), (5, .int v5), (6, .int v6), (7, .int v7), (8, .int v8), (9, .int v9)] [] M (k18 v1 v2 v3 v4 v5 v6 v7 v8 v9 M)) (v1 : Int32) (v2 : Int32) (v3 : Int32) (v4 : Int32) (v5 : Int32) (v6 : Int32) (v7 : Int32) (v9 : Int32) (vs0 : Int32) (vs1 : Int32) (M : zM) : zV eI l G zLY zRY 1 yX10_isWord cX10_isWord 10 (some .boolean) 95 [(0, .ref 0), (1, .int v1), (2, .int v2), (3, .int v3), (4, .int v4), (5, .int v5), (6, .int v6), (7, .int v7), (9, .int v9)] [.int vs0, .int vs1] M (fMd_isWord_95 k18 v1 v2 v3 v4 v5 v6 v7 v9 vs0 vs1 M) := by
  rw [fMd_isWord_95]
  refine v_icmp_ne (pc := 95) 102 dX10_isWord_95 (by decide) ?_ ?_
  · refine v_iconst (pc := 102) 0 dX10_isWord_102 (by decide) ?_
    refine v_istore (pc := 103) dX10_isWord_103 (by decide) ?_
    refine v_iinc (pc := 105) 1 dX10_isWord_105 rfl (by decide) (by decide) ?_
    refine v_goto (pc := 108) 18 dX10_isWord_108 (by decide) ?_
    exact v_sub (hk18 v1 v2 v3 v4 v5 v6 v7 0 (v9 + 1) M) rfl
  · refine v_iconst (pc := 98) 1 dX10_isWord_98 (by decide) ?_
    refine v_goto (pc := 99) 103 dX10_isWord_99 (by decide) ?_
    refine v_istore (pc := 103) dX10_isWord_103 (by decide) ?_
    refine v_iinc (pc := 105) 1 dX10_isWord_105 rfl (by decide) (by decide) ?_
    refine v_goto (pc := 108) 18 dX10_isWord_108 (by decide) ?_
    exact v_sub (hk18 v1 v2 v3 v4 v5 v6 v7 1 (v9 + 1) M) rfl
theorem wMd_isWord_18 (l : Launch) (G : zG) : ∀ (fuel : Nat) (v1 : Int32) (v2 : Int32) (v3 : Int32) (v4 : Int32) (v5 : Int32) (v6 : Int32) (v7 : Int32) (v8 : Int32) (v9 : Int32) (M : zM), zV eI l G zLY zRY 1 yX10_isWord cX10_isWord 10 (some .boolean) 18 [(0, .ref 0), (1, .int v1), (2, .int v2), (3, .int v3), (4, .int v4), (5, .int v5), (6, .int v6), (7, .int v7), (8, .int v8), (9, .int v9)] [] M (fMd_isWord_18 fuel v1 v2 v3 v4 v5 v6 v7 v8 v9 M) := by
  intro fuel
  induction fuel with
  | zero => intro v1 v2 v3 v4 v5 v6 v7 v8 v9 M; exact v_none
  | succ fuel ih =>
    intro v1 v2 v3 v4 v5 v6 v7 v8 v9 M
    rw [fMd_isWord_18]
    refine v_iload (pc := 18) dX10_isWord_18 rfl ?_
    refine v_iload_n (pc := 20) dX10_isWord_20 rfl ?_
    refine v_icmp_ge (pc := 21) 111 dX10_isWord_21 (by decide) ?_ ?_
    · refine v_iload (pc := 111) dX10_isWord_111 rfl ?_
      exact v_zret (pc := 113) dX10_isWord_113
    · refine v_iload (pc := 24) dX10_isWord_24 rfl ?_
      refine v_if_eq (pc := 26) 111 dX10_isWord_26 (by decide) ?_ ?_
      · refine v_iload (pc := 111) dX10_isWord_111 rfl ?_
        exact v_zret (pc := 113) dX10_isWord_113
      · refine v_aload_n (pc := 29) dX10_isWord_29 rfl ?_
        refine v_getR (pc := 30) (q := 28) zk10 ly_0 rfl ry_0_28 tw_1054 dX10_isWord_30 ?_
        refine v_aload_n (pc := 33) dX10_isWord_33 rfl ?_
        refine v_getI (pc := 34) (q := 33) zk10 ly_0 rfl tw_1059 dX10_isWord_34 ?_
        refine v_iload (pc := 37) dX10_isWord_37 rfl ?_
        refine v_iadd (pc := 39) dX10_isWord_39 ?_
        refine v_iald (pc := 40) ly_25 dX10_isWord_40 (fun x1 => ?_)
        refine v_iload (pc := 41) dX10_isWord_41 rfl ?_
        refine v_if_ne (pc := 43) 50 dX10_isWord_43 (by decide) ?_ ?_
        · refine v_iload (pc := 50) dX10_isWord_50 rfl ?_
          refine v_iconst (pc := 52) 1 dX10_isWord_52 (by decide) ?_
          refine v_icmp_ne (pc := 53) 60 dX10_isWord_53 (by decide) ?_ ?_
          · refine v_iload (pc := 60) dX10_isWord_60 rfl ?_
            refine v_iconst (pc := 62) 2 dX10_isWord_62 (by decide) ?_
            refine v_icmp_ne (pc := 63) 71 dX10_isWord_63 (by decide) ?_ ?_
            · refine v_iload (pc := 71) dX10_isWord_71 rfl ?_
              refine v_iconst (pc := 73) 3 dX10_isWord_73 (by decide) ?_
              refine v_icmp_ne (pc := 74) 82 dX10_isWord_74 (by decide) ?_ ?_
              · refine v_iload (pc := 82) dX10_isWord_82 rfl ?_
                refine v_iconst (pc := 84) 4 dX10_isWord_84 (by decide) ?_
                refine v_icmp_ne (pc := 85) 93 dX10_isWord_85 (by decide) ?_ ?_
                · refine v_iload (pc := 93) dX10_isWord_93 rfl ?_
                  exact v_sub (wMd_isWord_95 l G (fMd_isWord_18 fuel) ih v1 v2 v3 v4 v5 v6 v7 v9 v7 x1 M) rfl
                · refine v_iload (pc := 88) dX10_isWord_88 rfl ?_
                  refine v_goto (pc := 90) 95 dX10_isWord_90 (by decide) ?_
                  exact v_sub (wMd_isWord_95 l G (fMd_isWord_18 fuel) ih v1 v2 v3 v4 v5 v6 v7 v9 v6 x1 M) rfl
              · refine v_iload (pc := 77) dX10_isWord_77 rfl ?_
                refine v_goto (pc := 79) 95 dX10_isWord_79 (by decide) ?_
                exact v_sub (wMd_isWord_95 l G (fMd_isWord_18 fuel) ih v1 v2 v3 v4 v5 v6 v7 v9 v5 x1 M) rfl
            · refine v_iload (pc := 66) dX10_isWord_66 rfl ?_
              refine v_goto (pc := 68) 95 dX10_isWord_68 (by decide) ?_
              exact v_sub (wMd_isWord_95 l G (fMd_isWord_18 fuel) ih v1 v2 v3 v4 v5 v6 v7 v9 v4 x1 M) rfl
          · refine v_iload_n (pc := 56) dX10_isWord_56 rfl ?_
            refine v_goto (pc := 57) 95 dX10_isWord_57 (by decide) ?_
            exact v_sub (wMd_isWord_95 l G (fMd_isWord_18 fuel) ih v1 v2 v3 v4 v5 v6 v7 v9 v3 x1 M) rfl
        · refine v_iload_n (pc := 46) dX10_isWord_46 rfl ?_
          refine v_goto (pc := 47) 95 dX10_isWord_47 (by decide) ?_
          exact v_sub (wMd_isWord_95 l G (fMd_isWord_18 fuel) ih v1 v2 v3 v4 v5 v6 v7 v9 v2 x1 M) rfl
theorem wMd_isWord (l : Launch) (G : zG) (v1 : Int32) (v2 : Int32) (v3 : Int32) (v4 : Int32) (v5 : Int32) (v6 : Int32) (v7 : Int32) (M : zM) : zV eI l G zLY zRY 1 yX10_isWord cX10_isWord 10 (some .boolean) 0 [(0, .ref 0), (1, .int v1), (2, .int v2), (3, .int v3), (4, .int v4), (5, .int v5), (6, .int v6), (7, .int v7)] [] M (fMd_isWord v1 v2 v3 v4 v5 v6 v7 M) := by
  rw [fMd_isWord]
  refine v_aload_n (pc := 0) dX10_isWord_0 rfl ?_
  refine v_getI (pc := 1) (q := 34) zk10 ly_0 rfl tw_1060 dX10_isWord_1 ?_
  refine v_iload_n (pc := 4) dX10_isWord_4 rfl ?_
  refine v_icmp_ne (pc := 5) 12 dX10_isWord_5 (by decide) ?_ ?_
  · refine v_iconst (pc := 12) 0 dX10_isWord_12 (by decide) ?_
    refine v_istore (pc := 13) dX10_isWord_13 (by decide) ?_
    refine v_iconst (pc := 15) 0 dX10_isWord_15 (by decide) ?_
    refine v_istore (pc := 16) dX10_isWord_16 (by decide) ?_
    exact v_sub (wMd_isWord_18 l G FU v1 v2 v3 v4 v5 v6 v7 0 0 M) rfl
  · refine v_iconst (pc := 8) 1 dX10_isWord_8 (by decide) ?_
    refine v_goto (pc := 9) 13 dX10_isWord_9 (by decide) ?_
    refine v_istore (pc := 13) dX10_isWord_13 (by decide) ?_
    refine v_iconst (pc := 15) 0 dX10_isWord_15 (by decide) ?_
    refine v_istore (pc := 16) dX10_isWord_16 (by decide) ?_
    exact v_sub (wMd_isWord_18 l G FU v1 v2 v3 v4 v5 v6 v7 1 0 M) rfl
theorem cMd_isWord (l : Launch) (G : zG) (v1 : Int32) (v2 : Int32) (v3 : Int32) (v4 : Int32) (v5 : Int32) (v6 : Int32) (v7 : Int32) (M : zM) : zC eI l G zLY zRY 1 yX10_isWord cX10_isWord 10 (some .boolean) [.ref 0, .int v1, .int v2, .int v3, .int v4, .int v5, .int v6, .int v7] M (fMd_isWord v1 v2 v3 v4 v5 v6 v7 M) := zC.of (by decide) (Nat.le_of_ble_eq_true rfl) (v_sub (wMd_isWord l G v1 v2 v3 v4 v5 v6 v7 M) rfl)
theorem dX10_takeQuestion_0 : decode cX10_takeQuestion 0 = .ok (.aload_n 0, 1) := by decide +kernel
theorem dX10_takeQuestion_1 : decode cX10_takeQuestion 1 = .ok (.invokevirtual 275, 3) := by decide +kernel
theorem dX10_takeQuestion_4 : decode cX10_takeQuestion 4 = .ok (.istore_n 1, 1) := by decide +kernel
theorem dX10_takeQuestion_5 : decode cX10_takeQuestion 5 = .ok (.aload_n 0, 1) := by decide +kernel
theorem dX10_takeQuestion_6 : decode cX10_takeQuestion 6 = .ok (.aload_n 0, 1) := by decide +kernel
theorem dX10_takeQuestion_7 : decode cX10_takeQuestion 7 = .ok (.getfield 263, 3) := by decide +kernel
theorem dX10_takeQuestion_10 : decode cX10_takeQuestion 10 = .ok (.putfield 272, 3) := by decide +kernel
theorem dX10_takeQuestion_13 : decode cX10_takeQuestion 13 = .ok (.aload_n 0, 1) := by decide +kernel
theorem dX10_takeQuestion_14 : decode cX10_takeQuestion 14 = .ok (.getfield 263, 3) := by decide +kernel
theorem dX10_takeQuestion_17 : decode cX10_takeQuestion 17 = .ok (.aload_n 0, 1) := by decide +kernel
theorem dX10_takeQuestion_18 : decode cX10_takeQuestion 18 = .ok (.getfield 174, 3) := by decide +kernel
theorem dX10_takeQuestion_21 : decode cX10_takeQuestion 21 = .ok (.if_icmp .ge 38, 3) := by decide +kernel
theorem dX10_takeQuestion_24 : decode cX10_takeQuestion 24 = .ok (.aload_n 0, 1) := by decide +kernel
theorem dX10_takeQuestion_25 : decode cX10_takeQuestion 25 = .ok (.getfield 83, 3) := by decide +kernel
theorem dX10_takeQuestion_28 : decode cX10_takeQuestion 28 = .ok (.aload_n 0, 1) := by decide +kernel
theorem dX10_takeQuestion_29 : decode cX10_takeQuestion 29 = .ok (.getfield 263, 3) := by decide +kernel
theorem dX10_takeQuestion_32 : decode cX10_takeQuestion 32 = .ok (.iaload, 1) := by decide +kernel
theorem dX10_takeQuestion_33 : decode cX10_takeQuestion 33 = .ok (.i2l, 1) := by decide +kernel
theorem dX10_takeQuestion_34 : decode cX10_takeQuestion 34 = .ok (.ldc2_w 279, 3) := by decide +kernel
theorem dX10_takeQuestion_37 : decode cX10_takeQuestion 37 = .ok (.ldc2_w 281, 3) := by decide +kernel
theorem dX10_takeQuestion_40 : decode cX10_takeQuestion 40 = .ok (.invokestatic 102, 3) := by decide +kernel
theorem dX10_takeQuestion_43 : decode cX10_takeQuestion 43 = .ok (.ifCond .eq 16, 3) := by decide +kernel
theorem dX10_takeQuestion_46 : decode cX10_takeQuestion 46 = .ok (.aload_n 0, 1) := by decide +kernel
theorem dX10_takeQuestion_47 : decode cX10_takeQuestion 47 = .ok (.dup, 1) := by decide +kernel
theorem dX10_takeQuestion_48 : decode cX10_takeQuestion 48 = .ok (.getfield 263, 3) := by decide +kernel
theorem dX10_takeQuestion_51 : decode cX10_takeQuestion 51 = .ok (.iconst 1, 1) := by decide +kernel
theorem dX10_takeQuestion_52 : decode cX10_takeQuestion 52 = .ok (.iadd, 1) := by decide +kernel
theorem dX10_takeQuestion_53 : decode cX10_takeQuestion 53 = .ok (.putfield 263, 3) := by decide +kernel
theorem dX10_takeQuestion_56 : decode cX10_takeQuestion 56 = .ok (.goto (-43), 3) := by decide +kernel
theorem dX10_takeQuestion_59 : decode cX10_takeQuestion 59 = .ok (.aload_n 0, 1) := by decide +kernel
theorem dX10_takeQuestion_60 : decode cX10_takeQuestion 60 = .ok (.aload_n 0, 1) := by decide +kernel
theorem dX10_takeQuestion_61 : decode cX10_takeQuestion 61 = .ok (.getfield 263, 3) := by decide +kernel
theorem dX10_takeQuestion_64 : decode cX10_takeQuestion 64 = .ok (.aload_n 0, 1) := by decide +kernel
theorem dX10_takeQuestion_65 : decode cX10_takeQuestion 65 = .ok (.getfield 272, 3) := by decide +kernel
theorem dX10_takeQuestion_68 : decode cX10_takeQuestion 68 = .ok (.isub, 1) := by decide +kernel
theorem dX10_takeQuestion_69 : decode cX10_takeQuestion 69 = .ok (.putfield 269, 3) := by decide +kernel
theorem dX10_takeQuestion_72 : decode cX10_takeQuestion 72 = .ok (.aload_n 0, 1) := by decide +kernel
theorem dX10_takeQuestion_73 : decode cX10_takeQuestion 73 = .ok (.iconst 5, 1) := by decide +kernel
theorem dX10_takeQuestion_74 : decode cX10_takeQuestion 74 = .ok (.bipush 97, 2) := by decide +kernel
theorem dX10_takeQuestion_76 : decode cX10_takeQuestion 76 = .ok (.bipush 98, 2) := by decide +kernel
theorem dX10_takeQuestion_78 : decode cX10_takeQuestion 78 = .ok (.bipush 111, 2) := by decide +kernel
theorem dX10_takeQuestion_80 : decode cX10_takeQuestion 80 = .ok (.bipush 118, 2) := by decide +kernel
theorem dX10_takeQuestion_82 : decode cX10_takeQuestion 82 = .ok (.bipush 101, 2) := by decide +kernel
theorem dX10_takeQuestion_84 : decode cX10_takeQuestion 84 = .ok (.iconst 0, 1) := by decide +kernel
theorem dX10_takeQuestion_85 : decode cX10_takeQuestion 85 = .ok (.invokevirtual 283, 3) := by decide +kernel
theorem dX10_takeQuestion_88 : decode cX10_takeQuestion 88 = .ok (.ifCond .eq 5, 3) := by decide +kernel
theorem dX10_takeQuestion_91 : decode cX10_takeQuestion 91 = .ok (.iconst 0, 1) := by decide +kernel
theorem dX10_takeQuestion_92 : decode cX10_takeQuestion 92 = .ok (.ireturn, 1) := by decide +kernel
theorem dX10_takeQuestion_93 : decode cX10_takeQuestion 93 = .ok (.aload_n 0, 1) := by decide +kernel
theorem dX10_takeQuestion_94 : decode cX10_takeQuestion 94 = .ok (.bipush 6, 2) := by decide +kernel
theorem dX10_takeQuestion_96 : decode cX10_takeQuestion 96 = .ok (.bipush 106, 2) := by decide +kernel
theorem dX10_takeQuestion_98 : decode cX10_takeQuestion 98 = .ok (.bipush 111, 2) := by decide +kernel
theorem dX10_takeQuestion_100 : decode cX10_takeQuestion 100 = .ok (.bipush 105, 2) := by decide +kernel
theorem dX10_takeQuestion_102 : decode cX10_takeQuestion 102 = .ok (.bipush 110, 2) := by decide +kernel
theorem dX10_takeQuestion_104 : decode cX10_takeQuestion 104 = .ok (.bipush 101, 2) := by decide +kernel
theorem dX10_takeQuestion_106 : decode cX10_takeQuestion 106 = .ok (.bipush 100, 2) := by decide +kernel
theorem dX10_takeQuestion_108 : decode cX10_takeQuestion 108 = .ok (.invokevirtual 283, 3) := by decide +kernel
theorem dX10_takeQuestion_111 : decode cX10_takeQuestion 111 = .ok (.ifCond .eq 5, 3) := by decide +kernel
theorem dX10_takeQuestion_114 : decode cX10_takeQuestion 114 = .ok (.iconst 1, 1) := by decide +kernel
theorem dX10_takeQuestion_115 : decode cX10_takeQuestion 115 = .ok (.ireturn, 1) := by decide +kernel
theorem dX10_takeQuestion_116 : decode cX10_takeQuestion 116 = .ok (.aload_n 0, 1) := by decide +kernel
theorem dX10_takeQuestion_117 : decode cX10_takeQuestion 117 = .ok (.iconst 3, 1) := by decide +kernel
theorem dX10_takeQuestion_118 : decode cX10_takeQuestion 118 = .ok (.bipush 102, 2) := by decide +kernel
theorem dX10_takeQuestion_120 : decode cX10_takeQuestion 120 = .ok (.bipush 97, 2) := by decide +kernel
theorem dX10_takeQuestion_122 : decode cX10_takeQuestion 122 = .ok (.bipush 114, 2) := by decide +kernel
theorem dX10_takeQuestion_124 : decode cX10_takeQuestion 124 = .ok (.iconst 0, 1) := by decide +kernel
theorem dX10_takeQuestion_125 : decode cX10_takeQuestion 125 = .ok (.iconst 0, 1) := by decide +kernel
theorem dX10_takeQuestion_126 : decode cX10_takeQuestion 126 = .ok (.iconst 0, 1) := by decide +kernel
theorem dX10_takeQuestion_127 : decode cX10_takeQuestion 127 = .ok (.invokevirtual 283, 3) := by decide +kernel
theorem dX10_takeQuestion_130 : decode cX10_takeQuestion 130 = .ok (.ifCond .eq 5, 3) := by decide +kernel
theorem dX10_takeQuestion_133 : decode cX10_takeQuestion 133 = .ok (.iconst 2, 1) := by decide +kernel
theorem dX10_takeQuestion_134 : decode cX10_takeQuestion 134 = .ok (.ireturn, 1) := by decide +kernel
theorem dX10_takeQuestion_135 : decode cX10_takeQuestion 135 = .ok (.aload_n 0, 1) := by decide +kernel
theorem dX10_takeQuestion_136 : decode cX10_takeQuestion 136 = .ok (.bipush 6, 2) := by decide +kernel
theorem dX10_takeQuestion_138 : decode cX10_takeQuestion 138 = .ok (.bipush 112, 2) := by decide +kernel
theorem dX10_takeQuestion_140 : decode cX10_takeQuestion 140 = .ok (.bipush 97, 2) := by decide +kernel
theorem dX10_takeQuestion_142 : decode cX10_takeQuestion 142 = .ok (.bipush 114, 2) := by decide +kernel
theorem dX10_takeQuestion_144 : decode cX10_takeQuestion 144 = .ok (.bipush 116, 2) := by decide +kernel
theorem dX10_takeQuestion_146 : decode cX10_takeQuestion 146 = .ok (.bipush 101, 2) := by decide +kernel
theorem dX10_takeQuestion_148 : decode cX10_takeQuestion 148 = .ok (.bipush 100, 2) := by decide +kernel
theorem dX10_takeQuestion_150 : decode cX10_takeQuestion 150 = .ok (.invokevirtual 283, 3) := by decide +kernel
theorem dX10_takeQuestion_153 : decode cX10_takeQuestion 153 = .ok (.ifCond .eq 5, 3) := by decide +kernel
theorem dX10_takeQuestion_156 : decode cX10_takeQuestion 156 = .ok (.iconst 3, 1) := by decide +kernel
theorem dX10_takeQuestion_157 : decode cX10_takeQuestion 157 = .ok (.ireturn, 1) := by decide +kernel
theorem dX10_takeQuestion_158 : decode cX10_takeQuestion 158 = .ok (.aload_n 0, 1) := by decide +kernel
theorem dX10_takeQuestion_159 : decode cX10_takeQuestion 159 = .ok (.iconst 4, 1) := by decide +kernel
theorem dX10_takeQuestion_160 : decode cX10_takeQuestion 160 = .ok (.bipush 110, 2) := by decide +kernel
theorem dX10_takeQuestion_162 : decode cX10_takeQuestion 162 = .ok (.bipush 101, 2) := by decide +kernel
theorem dX10_takeQuestion_164 : decode cX10_takeQuestion 164 = .ok (.bipush 120, 2) := by decide +kernel
theorem dX10_takeQuestion_166 : decode cX10_takeQuestion 166 = .ok (.bipush 116, 2) := by decide +kernel
theorem dX10_takeQuestion_168 : decode cX10_takeQuestion 168 = .ok (.iconst 0, 1) := by decide +kernel
theorem dX10_takeQuestion_169 : decode cX10_takeQuestion 169 = .ok (.iconst 0, 1) := by decide +kernel
theorem dX10_takeQuestion_170 : decode cX10_takeQuestion 170 = .ok (.invokevirtual 283, 3) := by decide +kernel
theorem dX10_takeQuestion_173 : decode cX10_takeQuestion 173 = .ok (.ifCond .eq 7, 3) := by decide +kernel
theorem dX10_takeQuestion_176 : decode cX10_takeQuestion 176 = .ok (.iconst 4, 1) := by decide +kernel
theorem dX10_takeQuestion_177 : decode cX10_takeQuestion 177 = .ok (.goto 4, 3) := by decide +kernel
theorem dX10_takeQuestion_180 : decode cX10_takeQuestion 180 = .ok (.iconst (-1), 1) := by decide +kernel
theorem dX10_takeQuestion_181 : decode cX10_takeQuestion 181 = .ok (.ireturn, 1) := by decide +kernel
theorem wMd_takeQuestion_59 (l : Launch) (G : zG)  (M : zM) : zV eI l G zLY zRY 2 yX10_takeQuestion cX10_takeQuestion 2 (some .int) 59 [(0, .ref 0)] [] M (fMd_takeQuestion_59  M) := by
  rw [fMd_takeQuestion_59]
  refine v_aload_n (pc := 59) dX10_takeQuestion_59 rfl ?_
  refine v_aload_n (pc := 60) dX10_takeQuestion_60 rfl ?_
  refine v_getI (pc := 61) (q := 30) zk10 ly_0 rfl tw_1056 dX10_takeQuestion_61 ?_
  refine v_aload_n (pc := 64) dX10_takeQuestion_64 rfl ?_
  refine v_getI (pc := 65) (q := 33) zk10 ly_0 rfl tw_1059 dX10_takeQuestion_65 ?_
  refine v_isub (pc := 68) dX10_takeQuestion_68 ?_
  refine v_putI (pc := 69) (q := 34) zk10 ly_0 rfl tw_1060 rfl rfl rfl dX10_takeQuestion_69 (fun M1 => ?_)
  refine v_aload_n (pc := 72) dX10_takeQuestion_72 rfl ?_
  refine v_iconst (pc := 73) 5 dX10_takeQuestion_73 (by decide) ?_
  refine v_bipush (pc := 74) 97 dX10_takeQuestion_74 (by decide) ?_
  refine v_bipush (pc := 76) 98 dX10_takeQuestion_76 (by decide) ?_
  refine v_bipush (pc := 78) 111 dX10_takeQuestion_78 (by decide) ?_
  refine v_bipush (pc := 80) 118 dX10_takeQuestion_80 (by decide) ?_
  refine v_bipush (pc := 82) 101 dX10_takeQuestion_82 (by decide) ?_
  refine v_iconst (pc := 84) 0 dX10_takeQuestion_84 (by decide) ?_
  refine v_callV (pc := 85) (As := [.int 5, .int 97, .int 98, .int 111, .int 118, .int 101, .int 0]) (cMd_isWord l G 5 97 98 111 118 101 0 M1) zc_X10_isWord zk10 rfl ly_0 tw_1432 (by decide) (Nat.le_of_ble_eq_true rfl) dX10_takeQuestion_85 (fun r3 M2 => ?_)
  refine v_if_eq (pc := 88) 93 dX10_takeQuestion_88 (by decide) ?_ ?_
  · refine v_aload_n (pc := 93) dX10_takeQuestion_93 rfl ?_
    refine v_bipush (pc := 94) 6 dX10_takeQuestion_94 (by decide) ?_
    refine v_bipush (pc := 96) 106 dX10_takeQuestion_96 (by decide) ?_
    refine v_bipush (pc := 98) 111 dX10_takeQuestion_98 (by decide) ?_
    refine v_bipush (pc := 100) 105 dX10_takeQuestion_100 (by decide) ?_
    refine v_bipush (pc := 102) 110 dX10_takeQuestion_102 (by decide) ?_
    refine v_bipush (pc := 104) 101 dX10_takeQuestion_104 (by decide) ?_
    refine v_bipush (pc := 106) 100 dX10_takeQuestion_106 (by decide) ?_
    refine v_callV (pc := 108) (As := [.int 6, .int 106, .int 111, .int 105, .int 110, .int 101, .int 100]) (cMd_isWord l G 6 106 111 105 110 101 100 M2) zc_X10_isWord zk10 rfl ly_0 tw_1432 (by decide) (Nat.le_of_ble_eq_true rfl) dX10_takeQuestion_108 (fun r5 M4 => ?_)
    refine v_if_eq (pc := 111) 116 dX10_takeQuestion_111 (by decide) ?_ ?_
    · refine v_aload_n (pc := 116) dX10_takeQuestion_116 rfl ?_
      refine v_iconst (pc := 117) 3 dX10_takeQuestion_117 (by decide) ?_
      refine v_bipush (pc := 118) 102 dX10_takeQuestion_118 (by decide) ?_
      refine v_bipush (pc := 120) 97 dX10_takeQuestion_120 (by decide) ?_
      refine v_bipush (pc := 122) 114 dX10_takeQuestion_122 (by decide) ?_
      refine v_iconst (pc := 124) 0 dX10_takeQuestion_124 (by decide) ?_
      refine v_iconst (pc := 125) 0 dX10_takeQuestion_125 (by decide) ?_
      refine v_iconst (pc := 126) 0 dX10_takeQuestion_126 (by decide) ?_
      refine v_callV (pc := 127) (As := [.int 3, .int 102, .int 97, .int 114, .int 0, .int 0, .int 0]) (cMd_isWord l G 3 102 97 114 0 0 0 M4) zc_X10_isWord zk10 rfl ly_0 tw_1432 (by decide) (Nat.le_of_ble_eq_true rfl) dX10_takeQuestion_127 (fun r7 M6 => ?_)
      refine v_if_eq (pc := 130) 135 dX10_takeQuestion_130 (by decide) ?_ ?_
      · refine v_aload_n (pc := 135) dX10_takeQuestion_135 rfl ?_
        refine v_bipush (pc := 136) 6 dX10_takeQuestion_136 (by decide) ?_
        refine v_bipush (pc := 138) 112 dX10_takeQuestion_138 (by decide) ?_
        refine v_bipush (pc := 140) 97 dX10_takeQuestion_140 (by decide) ?_
        refine v_bipush (pc := 142) 114 dX10_takeQuestion_142 (by decide) ?_
        refine v_bipush (pc := 144) 116 dX10_takeQuestion_144 (by decide) ?_
        refine v_bipush (pc := 146) 101 dX10_takeQuestion_146 (by decide) ?_
        refine v_bipush (pc := 148) 100 dX10_takeQuestion_148 (by decide) ?_
        refine v_callV (pc := 150) (As := [.int 6, .int 112, .int 97, .int 114, .int 116, .int 101, .int 100]) (cMd_isWord l G 6 112 97 114 116 101 100 M6) zc_X10_isWord zk10 rfl ly_0 tw_1432 (by decide) (Nat.le_of_ble_eq_true rfl) dX10_takeQuestion_150 (fun r9 M8 => ?_)
        refine v_if_eq (pc := 153) 158 dX10_takeQuestion_153 (by decide) ?_ ?_
        · refine v_aload_n (pc := 158) dX10_takeQuestion_158 rfl ?_
          refine v_iconst (pc := 159) 4 dX10_takeQuestion_159 (by decide) ?_
          refine v_bipush (pc := 160) 110 dX10_takeQuestion_160 (by decide) ?_
          refine v_bipush (pc := 162) 101 dX10_takeQuestion_162 (by decide) ?_
          refine v_bipush (pc := 164) 120 dX10_takeQuestion_164 (by decide) ?_
          refine v_bipush (pc := 166) 116 dX10_takeQuestion_166 (by decide) ?_
          refine v_iconst (pc := 168) 0 dX10_takeQuestion_168 (by decide) ?_
          refine v_iconst (pc := 169) 0 dX10_takeQuestion_169 (by decide) ?_
          refine v_callV (pc := 170) (As := [.int 4, .int 110, .int 101, .int 120, .int 116, .int 0, .int 0]) (cMd_isWord l G 4 110 101 120 116 0 0 M8) zc_X10_isWord zk10 rfl ly_0 tw_1432 (by decide) (Nat.le_of_ble_eq_true rfl) dX10_takeQuestion_170 (fun r11 M10 => ?_)
          refine v_if_eq (pc := 173) 180 dX10_takeQuestion_173 (by decide) ?_ ?_
          · refine v_iconst (pc := 180) (-1) dX10_takeQuestion_180 (by decide) ?_
            exact v_iret (pc := 181) dX10_takeQuestion_181
          · refine v_iconst (pc := 176) 4 dX10_takeQuestion_176 (by decide) ?_
            refine v_goto (pc := 177) 181 dX10_takeQuestion_177 (by decide) ?_
            exact v_iret (pc := 181) dX10_takeQuestion_181
        · refine v_iconst (pc := 156) 3 dX10_takeQuestion_156 (by decide) ?_
          exact v_iret (pc := 157) dX10_takeQuestion_157
      · refine v_iconst (pc := 133) 2 dX10_takeQuestion_133 (by decide) ?_
        exact v_iret (pc := 134) dX10_takeQuestion_134
    · refine v_iconst (pc := 114) 1 dX10_takeQuestion_114 (by decide) ?_
      exact v_iret (pc := 115) dX10_takeQuestion_115
  · refine v_iconst (pc := 91) 0 dX10_takeQuestion_91 (by decide) ?_
    exact v_iret (pc := 92) dX10_takeQuestion_92
theorem wMd_takeQuestion_13 (l : Launch) (G : zG) : ∀ (fuel : Nat)  (M : zM), zV eI l G zLY zRY 2 yX10_takeQuestion cX10_takeQuestion 2 (some .int) 13 [(0, .ref 0)] [] M (fMd_takeQuestion_13 fuel  M) := by
  intro fuel
  induction fuel with
  | zero => intro  M; exact v_none
  | succ fuel ih =>
    intro  M
    rw [fMd_takeQuestion_13]
    refine v_aload_n (pc := 13) dX10_takeQuestion_13 rfl ?_
    refine v_getI (pc := 14) (q := 30) zk10 ly_0 rfl tw_1056 dX10_takeQuestion_14 ?_
    refine v_aload_n (pc := 17) dX10_takeQuestion_17 rfl ?_
    refine v_getI (pc := 18) (q := 29) zk10 ly_0 rfl tw_1055 dX10_takeQuestion_18 ?_
    refine v_icmp_ge (pc := 21) 59 dX10_takeQuestion_21 (by decide) ?_ ?_
    · exact v_sub (wMd_takeQuestion_59 l G  M) rfl
    · refine v_aload_n (pc := 24) dX10_takeQuestion_24 rfl ?_
      refine v_getR (pc := 25) (q := 28) zk10 ly_0 rfl ry_0_28 tw_1054 dX10_takeQuestion_25 ?_
      refine v_aload_n (pc := 28) dX10_takeQuestion_28 rfl ?_
      refine v_getI (pc := 29) (q := 30) zk10 ly_0 rfl tw_1056 dX10_takeQuestion_29 ?_
      refine v_iald (pc := 32) ly_25 dX10_takeQuestion_32 (fun x1 => ?_)
      refine v_i2l (pc := 33) dX10_takeQuestion_33 ?_
      refine v_ldc2 (pc := 34) 97 tw_1430 dX10_takeQuestion_34 ?_
      refine v_ldc2 (pc := 37) 122 tw_1431 dX10_takeQuestion_37 ?_
      refine v_callS (pc := 40) (As := [.long x1.toInt64, .long 97, .long 122]) (cMd_in l G x1.toInt64 97 122 M) zc_X10_in tw_1153 (by decide) (Nat.le_of_ble_eq_true rfl) dX10_takeQuestion_40 (fun r3 M2 => ?_)
      refine v_if_eq (pc := 43) 59 dX10_takeQuestion_43 (by decide) ?_ ?_
      · exact v_sub (wMd_takeQuestion_59 l G  M2) rfl
      · refine v_aload_n (pc := 46) dX10_takeQuestion_46 rfl ?_
        refine v_dup (pc := 47) dX10_takeQuestion_47 rfl ?_
        refine v_getI (pc := 48) (q := 30) zk10 ly_0 rfl tw_1056 dX10_takeQuestion_48 ?_
        refine v_iconst (pc := 51) 1 dX10_takeQuestion_51 (by decide) ?_
        refine v_iadd (pc := 52) dX10_takeQuestion_52 ?_
        refine v_putI (pc := 53) (q := 30) zk10 ly_0 rfl tw_1056 rfl rfl rfl dX10_takeQuestion_53 (fun M4 => ?_)
        refine v_goto (pc := 56) 13 dX10_takeQuestion_56 (by decide) ?_
        exact v_sub (ih  M4) rfl
theorem wMd_takeQuestion (l : Launch) (G : zG)  (M : zM) : zV eI l G zLY zRY 2 yX10_takeQuestion cX10_takeQuestion 2 (some .int) 0 [(0, .ref 0)] [] M (fMd_takeQuestion  M) := by
  rw [fMd_takeQuestion]
  refine v_aload_n (pc := 0) dX10_takeQuestion_0 rfl ?_
  refine v_callV (pc := 1) (As := []) (cMd_here l G  M) zc_X10_here zk10 rfl ly_0 tw_1418 (by decide) (Nat.le_of_ble_eq_true rfl) dX10_takeQuestion_1 (fun r2 M1 => ?_)
  refine v_istore_n (pc := 4) dX10_takeQuestion_4 (by decide) ?_
  refine v_aload_n (pc := 5) dX10_takeQuestion_5 rfl ?_
  refine v_aload_n (pc := 6) dX10_takeQuestion_6 rfl ?_
  refine v_getI (pc := 7) (q := 30) zk10 ly_0 rfl tw_1056 dX10_takeQuestion_7 ?_
  refine v_putI (pc := 10) (q := 33) zk10 ly_0 rfl tw_1059 rfl rfl rfl dX10_takeQuestion_10 (fun M3 => ?_)
  exact v_sub (wMd_takeQuestion_13 l G FU  M3) rfl
theorem cMd_takeQuestion (l : Launch) (G : zG)  (M : zM) : zC eI l G zLY zRY 2 yX10_takeQuestion cX10_takeQuestion 2 (some .int) [.ref 0] M (fMd_takeQuestion  M) := zC.of (by decide) (Nat.le_of_ble_eq_true rfl) (v_sub (wMd_takeQuestion l G  M) rfl)
theorem dX10_takeNumber_0 : decode cX10_takeNumber 0 = .ok (.aload_n 0, 1) := by decide +kernel
theorem dX10_takeNumber_1 : decode cX10_takeNumber 1 = .ok (.invokevirtual 275, 3) := by decide +kernel
theorem dX10_takeNumber_4 : decode cX10_takeNumber 4 = .ok (.istore_n 2, 1) := by decide +kernel
theorem dX10_takeNumber_5 : decode cX10_takeNumber 5 = .ok (.aload_n 0, 1) := by decide +kernel
theorem dX10_takeNumber_6 : decode cX10_takeNumber 6 = .ok (.iload_n 2, 1) := by decide +kernel
theorem dX10_takeNumber_7 : decode cX10_takeNumber 7 = .ok (.i2l, 1) := by decide +kernel
theorem dX10_takeNumber_8 : decode cX10_takeNumber 8 = .ok (.ldc2_w 287, 3) := by decide +kernel
theorem dX10_takeNumber_11 : decode cX10_takeNumber 11 = .ok (.ldc2_w 289, 3) := by decide +kernel
theorem dX10_takeNumber_14 : decode cX10_takeNumber 14 = .ok (.invokestatic 102, 3) := by decide +kernel
theorem dX10_takeNumber_17 : decode cX10_takeNumber 17 = .ok (.iconst 1, 1) := by decide +kernel
theorem dX10_takeNumber_18 : decode cX10_takeNumber 18 = .ok (.aload_n 0, 1) := by decide +kernel
theorem dX10_takeNumber_19 : decode cX10_takeNumber 19 = .ok (.getfield 263, 3) := by decide +kernel
theorem dX10_takeNumber_22 : decode cX10_takeNumber 22 = .ok (.invokevirtual 291, 3) := by decide +kernel
theorem dX10_takeNumber_25 : decode cX10_takeNumber 25 = .ok (.ifCond .ne 4, 3) := by decide +kernel
theorem dX10_takeNumber_28 : decode cX10_takeNumber 28 = .ok (.return_, 1) := by decide +kernel
theorem dX10_takeNumber_29 : decode cX10_takeNumber 29 = .ok (.aload_n 0, 1) := by decide +kernel
theorem dX10_takeNumber_30 : decode cX10_takeNumber 30 = .ok (.getfield 263, 3) := by decide +kernel
theorem dX10_takeNumber_33 : decode cX10_takeNumber 33 = .ok (.istore_n 3, 1) := by decide +kernel
theorem dX10_takeNumber_34 : decode cX10_takeNumber 34 = .ok (.iconst 0, 1) := by decide +kernel
theorem dX10_takeNumber_35 : decode cX10_takeNumber 35 = .ok (.istore 4, 2) := by decide +kernel
theorem dX10_takeNumber_37 : decode cX10_takeNumber 37 = .ok (.aload_n 0, 1) := by decide +kernel
theorem dX10_takeNumber_38 : decode cX10_takeNumber 38 = .ok (.getfield 263, 3) := by decide +kernel
theorem dX10_takeNumber_41 : decode cX10_takeNumber 41 = .ok (.aload_n 0, 1) := by decide +kernel
theorem dX10_takeNumber_42 : decode cX10_takeNumber 42 = .ok (.getfield 174, 3) := by decide +kernel
theorem dX10_takeNumber_45 : decode cX10_takeNumber 45 = .ok (.if_icmp .ge 71, 3) := by decide +kernel
theorem dX10_takeNumber_48 : decode cX10_takeNumber 48 = .ok (.aload_n 0, 1) := by decide +kernel
theorem dX10_takeNumber_49 : decode cX10_takeNumber 49 = .ok (.getfield 83, 3) := by decide +kernel
theorem dX10_takeNumber_52 : decode cX10_takeNumber 52 = .ok (.aload_n 0, 1) := by decide +kernel
theorem dX10_takeNumber_53 : decode cX10_takeNumber 53 = .ok (.getfield 263, 3) := by decide +kernel
theorem dX10_takeNumber_56 : decode cX10_takeNumber 56 = .ok (.iaload, 1) := by decide +kernel
theorem dX10_takeNumber_57 : decode cX10_takeNumber 57 = .ok (.i2l, 1) := by decide +kernel
theorem dX10_takeNumber_58 : decode cX10_takeNumber 58 = .ok (.ldc2_w 287, 3) := by decide +kernel
theorem dX10_takeNumber_61 : decode cX10_takeNumber 61 = .ok (.ldc2_w 289, 3) := by decide +kernel
theorem dX10_takeNumber_64 : decode cX10_takeNumber 64 = .ok (.invokestatic 102, 3) := by decide +kernel
theorem dX10_takeNumber_67 : decode cX10_takeNumber 67 = .ok (.ifCond .eq 49, 3) := by decide +kernel
theorem dX10_takeNumber_70 : decode cX10_takeNumber 70 = .ok (.iload 4, 2) := by decide +kernel
theorem dX10_takeNumber_72 : decode cX10_takeNumber 72 = .ok (.sipush 999, 3) := by decide +kernel
theorem dX10_takeNumber_75 : decode cX10_takeNumber 75 = .ok (.if_icmp .le 8, 3) := by decide +kernel
theorem dX10_takeNumber_78 : decode cX10_takeNumber 78 = .ok (.iload 4, 2) := by decide +kernel
theorem dX10_takeNumber_80 : decode cX10_takeNumber 80 = .ok (.goto 21, 3) := by decide +kernel
theorem dX10_takeNumber_83 : decode cX10_takeNumber 83 = .ok (.bipush 10, 2) := by decide +kernel
theorem dX10_takeNumber_85 : decode cX10_takeNumber 85 = .ok (.iload 4, 2) := by decide +kernel
theorem dX10_takeNumber_87 : decode cX10_takeNumber 87 = .ok (.imul, 1) := by decide +kernel
theorem dX10_takeNumber_88 : decode cX10_takeNumber 88 = .ok (.aload_n 0, 1) := by decide +kernel
theorem dX10_takeNumber_89 : decode cX10_takeNumber 89 = .ok (.getfield 83, 3) := by decide +kernel
theorem dX10_takeNumber_92 : decode cX10_takeNumber 92 = .ok (.aload_n 0, 1) := by decide +kernel
theorem dX10_takeNumber_93 : decode cX10_takeNumber 93 = .ok (.getfield 263, 3) := by decide +kernel
theorem dX10_takeNumber_96 : decode cX10_takeNumber 96 = .ok (.iaload, 1) := by decide +kernel
theorem dX10_takeNumber_97 : decode cX10_takeNumber 97 = .ok (.iadd, 1) := by decide +kernel
theorem dX10_takeNumber_98 : decode cX10_takeNumber 98 = .ok (.bipush 48, 2) := by decide +kernel
theorem dX10_takeNumber_100 : decode cX10_takeNumber 100 = .ok (.isub, 1) := by decide +kernel
theorem dX10_takeNumber_101 : decode cX10_takeNumber 101 = .ok (.istore 4, 2) := by decide +kernel
theorem dX10_takeNumber_103 : decode cX10_takeNumber 103 = .ok (.aload_n 0, 1) := by decide +kernel
theorem dX10_takeNumber_104 : decode cX10_takeNumber 104 = .ok (.dup, 1) := by decide +kernel
theorem dX10_takeNumber_105 : decode cX10_takeNumber 105 = .ok (.getfield 263, 3) := by decide +kernel
theorem dX10_takeNumber_108 : decode cX10_takeNumber 108 = .ok (.iconst 1, 1) := by decide +kernel
theorem dX10_takeNumber_109 : decode cX10_takeNumber 109 = .ok (.iadd, 1) := by decide +kernel
theorem dX10_takeNumber_110 : decode cX10_takeNumber 110 = .ok (.putfield 263, 3) := by decide +kernel
theorem dX10_takeNumber_113 : decode cX10_takeNumber 113 = .ok (.goto (-76), 3) := by decide +kernel
theorem dX10_takeNumber_116 : decode cX10_takeNumber 116 = .ok (.aload_n 0, 1) := by decide +kernel
theorem dX10_takeNumber_117 : decode cX10_takeNumber 117 = .ok (.aload_n 0, 1) := by decide +kernel
theorem dX10_takeNumber_118 : decode cX10_takeNumber 118 = .ok (.getfield 263, 3) := by decide +kernel
theorem dX10_takeNumber_121 : decode cX10_takeNumber 121 = .ok (.iload_n 3, 1) := by decide +kernel
theorem dX10_takeNumber_122 : decode cX10_takeNumber 122 = .ok (.isub, 1) := by decide +kernel
theorem dX10_takeNumber_123 : decode cX10_takeNumber 123 = .ok (.iconst 3, 1) := by decide +kernel
theorem dX10_takeNumber_124 : decode cX10_takeNumber 124 = .ok (.if_icmp .ge 7, 3) := by decide +kernel
theorem dX10_takeNumber_127 : decode cX10_takeNumber 127 = .ok (.iconst 1, 1) := by decide +kernel
theorem dX10_takeNumber_128 : decode cX10_takeNumber 128 = .ok (.goto 4, 3) := by decide +kernel
theorem dX10_takeNumber_131 : decode cX10_takeNumber 131 = .ok (.iconst 0, 1) := by decide +kernel
theorem dX10_takeNumber_132 : decode cX10_takeNumber 132 = .ok (.iconst 2, 1) := by decide +kernel
theorem dX10_takeNumber_133 : decode cX10_takeNumber 133 = .ok (.iload_n 3, 1) := by decide +kernel
theorem dX10_takeNumber_134 : decode cX10_takeNumber 134 = .ok (.invokevirtual 291, 3) := by decide +kernel
theorem dX10_takeNumber_137 : decode cX10_takeNumber 137 = .ok (.ifCond .eq 52, 3) := by decide +kernel
theorem dX10_takeNumber_140 : decode cX10_takeNumber 140 = .ok (.aload_n 0, 1) := by decide +kernel
theorem dX10_takeNumber_141 : decode cX10_takeNumber 141 = .ok (.iload_n 1, 1) := by decide +kernel
theorem dX10_takeNumber_142 : decode cX10_takeNumber 142 = .ok (.iconst 2, 1) := by decide +kernel
theorem dX10_takeNumber_143 : decode cX10_takeNumber 143 = .ok (.if_icmp .ge 20, 3) := by decide +kernel
theorem dX10_takeNumber_146 : decode cX10_takeNumber 146 = .ok (.aload_n 0, 1) := by decide +kernel
theorem dX10_takeNumber_147 : decode cX10_takeNumber 147 = .ok (.iload 4, 2) := by decide +kernel
theorem dX10_takeNumber_149 : decode cX10_takeNumber 149 = .ok (.invokevirtual 115, 3) := by decide +kernel
theorem dX10_takeNumber_152 : decode cX10_takeNumber 152 = .ok (.ifCond .ne 7, 3) := by decide +kernel
theorem dX10_takeNumber_155 : decode cX10_takeNumber 155 = .ok (.iconst 1, 1) := by decide +kernel
theorem dX10_takeNumber_156 : decode cX10_takeNumber 156 = .ok (.goto 21, 3) := by decide +kernel
theorem dX10_takeNumber_159 : decode cX10_takeNumber 159 = .ok (.iconst 0, 1) := by decide +kernel
theorem dX10_takeNumber_160 : decode cX10_takeNumber 160 = .ok (.goto 17, 3) := by decide +kernel
theorem dX10_takeNumber_163 : decode cX10_takeNumber 163 = .ok (.aload_n 0, 1) := by decide +kernel
theorem dX10_takeNumber_164 : decode cX10_takeNumber 164 = .ok (.iload 4, 2) := by decide +kernel
theorem dX10_takeNumber_166 : decode cX10_takeNumber 166 = .ok (.invokevirtual 123, 3) := by decide +kernel
theorem dX10_takeNumber_169 : decode cX10_takeNumber 169 = .ok (.ifCond .ne 7, 3) := by decide +kernel
theorem dX10_takeNumber_172 : decode cX10_takeNumber 172 = .ok (.iconst 1, 1) := by decide +kernel
theorem dX10_takeNumber_173 : decode cX10_takeNumber 173 = .ok (.goto 4, 3) := by decide +kernel
theorem dX10_takeNumber_176 : decode cX10_takeNumber 176 = .ok (.iconst 0, 1) := by decide +kernel
theorem dX10_takeNumber_177 : decode cX10_takeNumber 177 = .ok (.iconst 3, 1) := by decide +kernel
theorem dX10_takeNumber_178 : decode cX10_takeNumber 178 = .ok (.iload_n 3, 1) := by decide +kernel
theorem dX10_takeNumber_179 : decode cX10_takeNumber 179 = .ok (.invokevirtual 291, 3) := by decide +kernel
theorem dX10_takeNumber_182 : decode cX10_takeNumber 182 = .ok (.ifCond .eq 7, 3) := by decide +kernel
theorem dX10_takeNumber_185 : decode cX10_takeNumber 185 = .ok (.iconst 1, 1) := by decide +kernel
theorem dX10_takeNumber_186 : decode cX10_takeNumber 186 = .ok (.goto 4, 3) := by decide +kernel
theorem dX10_takeNumber_189 : decode cX10_takeNumber 189 = .ok (.iconst 0, 1) := by decide +kernel
theorem dX10_takeNumber_190 : decode cX10_takeNumber 190 = .ok (.istore 5, 2) := by decide +kernel
theorem dX10_takeNumber_192 : decode cX10_takeNumber 192 = .ok (.aload_n 0, 1) := by decide +kernel
theorem dX10_takeNumber_193 : decode cX10_takeNumber 193 = .ok (.getfield 96, 3) := by decide +kernel
theorem dX10_takeNumber_196 : decode cX10_takeNumber 196 = .ok (.iload_n 1, 1) := by decide +kernel
theorem dX10_takeNumber_197 : decode cX10_takeNumber 197 = .ok (.iload 4, 2) := by decide +kernel
theorem dX10_takeNumber_199 : decode cX10_takeNumber 199 = .ok (.iastore, 1) := by decide +kernel
theorem dX10_takeNumber_200 : decode cX10_takeNumber 200 = .ok (.return_, 1) := by decide +kernel
theorem wMd_takeNumber_177 (l : Launch) (G : zG) (v1 : Int32) (v3 : Int32) (v4 : Int32) (vs0 : Int32) (M : zM) : zV eV l G zLY zRY 3 yX10_takeNumber cX10_takeNumber 6 none 177 [(0, .ref 0), (1, .int v1), (3, .int v3), (4, .int v4)] [.int vs0, .ref 0] M (fMd_takeNumber_177 v1 v3 v4 vs0 M) := by
  rw [fMd_takeNumber_177]
  refine v_iconst (pc := 177) 3 dX10_takeNumber_177 (by decide) ?_
  refine v_iload_n (pc := 178) dX10_takeNumber_178 rfl ?_
  refine v_callV (pc := 179) (As := [.int vs0, .int 3, .int v3]) (cMd_want l G vs0 3 v3 M) zc_X10_want zk10 rfl ly_0 tw_1436 (by decide) (Nat.le_of_ble_eq_true rfl) dX10_takeNumber_179 (fun r2 M1 => ?_)
  refine v_if_eq (pc := 182) 189 dX10_takeNumber_182 (by decide) ?_ ?_
  · refine v_iconst (pc := 189) 0 dX10_takeNumber_189 (by decide) ?_
    refine v_istore (pc := 190) dX10_takeNumber_190 (by decide) ?_
    refine v_aload_n (pc := 192) dX10_takeNumber_192 rfl ?_
    refine v_getR (pc := 193) (q := 39) zk10 ly_0 rfl ry_0_39 tw_1065 dX10_takeNumber_193 ?_
    refine v_iload_n (pc := 196) dX10_takeNumber_196 rfl ?_
    refine v_iload (pc := 197) dX10_takeNumber_197 rfl ?_
    refine v_iast (pc := 199) ly_28 dX10_takeNumber_199 (fun M3 => ?_)
    exact v_vret (pc := 200) dX10_takeNumber_200
  · refine v_iconst (pc := 185) 1 dX10_takeNumber_185 (by decide) ?_
    refine v_goto (pc := 186) 190 dX10_takeNumber_186 (by decide) ?_
    refine v_istore (pc := 190) dX10_takeNumber_190 (by decide) ?_
    refine v_aload_n (pc := 192) dX10_takeNumber_192 rfl ?_
    refine v_getR (pc := 193) (q := 39) zk10 ly_0 rfl ry_0_39 tw_1065 dX10_takeNumber_193 ?_
    refine v_iload_n (pc := 196) dX10_takeNumber_196 rfl ?_
    refine v_iload (pc := 197) dX10_takeNumber_197 rfl ?_
    refine v_iast (pc := 199) ly_28 dX10_takeNumber_199 (fun M4 => ?_)
    exact v_vret (pc := 200) dX10_takeNumber_200
theorem wMd_takeNumber_132 (l : Launch) (G : zG) (v1 : Int32) (v3 : Int32) (v4 : Int32) (vs0 : Int32) (M : zM) : zV eV l G zLY zRY 3 yX10_takeNumber cX10_takeNumber 6 none 132 [(0, .ref 0), (1, .int v1), (3, .int v3), (4, .int v4)] [.int vs0, .ref 0] M (fMd_takeNumber_132 v1 v3 v4 vs0 M) := by
  rw [fMd_takeNumber_132]
  refine v_iconst (pc := 132) 2 dX10_takeNumber_132 (by decide) ?_
  refine v_iload_n (pc := 133) dX10_takeNumber_133 rfl ?_
  refine v_callV (pc := 134) (As := [.int vs0, .int 2, .int v3]) (cMd_want l G vs0 2 v3 M) zc_X10_want zk10 rfl ly_0 tw_1436 (by decide) (Nat.le_of_ble_eq_true rfl) dX10_takeNumber_134 (fun r2 M1 => ?_)
  refine v_if_eq (pc := 137) 189 dX10_takeNumber_137 (by decide) ?_ ?_
  · refine v_iconst (pc := 189) 0 dX10_takeNumber_189 (by decide) ?_
    refine v_istore (pc := 190) dX10_takeNumber_190 (by decide) ?_
    refine v_aload_n (pc := 192) dX10_takeNumber_192 rfl ?_
    refine v_getR (pc := 193) (q := 39) zk10 ly_0 rfl ry_0_39 tw_1065 dX10_takeNumber_193 ?_
    refine v_iload_n (pc := 196) dX10_takeNumber_196 rfl ?_
    refine v_iload (pc := 197) dX10_takeNumber_197 rfl ?_
    refine v_iast (pc := 199) ly_28 dX10_takeNumber_199 (fun M3 => ?_)
    exact v_vret (pc := 200) dX10_takeNumber_200
  · refine v_aload_n (pc := 140) dX10_takeNumber_140 rfl ?_
    refine v_iload_n (pc := 141) dX10_takeNumber_141 rfl ?_
    refine v_iconst (pc := 142) 2 dX10_takeNumber_142 (by decide) ?_
    refine v_icmp_ge (pc := 143) 163 dX10_takeNumber_143 (by decide) ?_ ?_
    · refine v_aload_n (pc := 163) dX10_takeNumber_163 rfl ?_
      refine v_iload (pc := 164) dX10_takeNumber_164 rfl ?_
      refine v_callV (pc := 166) (As := [.int v4]) (cMd_noLine l G v4 M1) zc_X10_noLine zk10 rfl ly_0 tw_1176 (by decide) (Nat.le_of_ble_eq_true rfl) dX10_takeNumber_166 (fun r5 M4 => ?_)
      refine v_if_ne (pc := 169) 176 dX10_takeNumber_169 (by decide) ?_ ?_
      · refine v_iconst (pc := 176) 0 dX10_takeNumber_176 (by decide) ?_
        exact v_sub (wMd_takeNumber_177 l G v1 v3 v4 0 M4) rfl
      · refine v_iconst (pc := 172) 1 dX10_takeNumber_172 (by decide) ?_
        refine v_goto (pc := 173) 177 dX10_takeNumber_173 (by decide) ?_
        exact v_sub (wMd_takeNumber_177 l G v1 v3 v4 1 M4) rfl
    · refine v_aload_n (pc := 146) dX10_takeNumber_146 rfl ?_
      refine v_iload (pc := 147) dX10_takeNumber_147 rfl ?_
      refine v_callV (pc := 149) (As := [.int v4]) (cMd_noPost l G v4 M1) zc_X10_noPost zk10 rfl ly_0 tw_1164 (by decide) (Nat.le_of_ble_eq_true rfl) dX10_takeNumber_149 (fun r7 M6 => ?_)
      refine v_if_ne (pc := 152) 159 dX10_takeNumber_152 (by decide) ?_ ?_
      · refine v_iconst (pc := 159) 0 dX10_takeNumber_159 (by decide) ?_
        refine v_goto (pc := 160) 177 dX10_takeNumber_160 (by decide) ?_
        exact v_sub (wMd_takeNumber_177 l G v1 v3 v4 0 M6) rfl
      · refine v_iconst (pc := 155) 1 dX10_takeNumber_155 (by decide) ?_
        refine v_goto (pc := 156) 177 dX10_takeNumber_156 (by decide) ?_
        exact v_sub (wMd_takeNumber_177 l G v1 v3 v4 1 M6) rfl
theorem wMd_takeNumber_116 (l : Launch) (G : zG) (v1 : Int32) (v3 : Int32) (v4 : Int32) (M : zM) : zV eV l G zLY zRY 3 yX10_takeNumber cX10_takeNumber 6 none 116 [(0, .ref 0), (1, .int v1), (3, .int v3), (4, .int v4)] [] M (fMd_takeNumber_116 v1 v3 v4 M) := by
  rw [fMd_takeNumber_116]
  refine v_aload_n (pc := 116) dX10_takeNumber_116 rfl ?_
  refine v_aload_n (pc := 117) dX10_takeNumber_117 rfl ?_
  refine v_getI (pc := 118) (q := 30) zk10 ly_0 rfl tw_1056 dX10_takeNumber_118 ?_
  refine v_iload_n (pc := 121) dX10_takeNumber_121 rfl ?_
  refine v_isub (pc := 122) dX10_takeNumber_122 ?_
  refine v_iconst (pc := 123) 3 dX10_takeNumber_123 (by decide) ?_
  refine v_icmp_ge (pc := 124) 131 dX10_takeNumber_124 (by decide) ?_ ?_
  · refine v_iconst (pc := 131) 0 dX10_takeNumber_131 (by decide) ?_
    exact v_sub (wMd_takeNumber_132 l G v1 v3 v4 0 M) rfl
  · refine v_iconst (pc := 127) 1 dX10_takeNumber_127 (by decide) ?_
    refine v_goto (pc := 128) 132 dX10_takeNumber_128 (by decide) ?_
    exact v_sub (wMd_takeNumber_132 l G v1 v3 v4 1 M) rfl
theorem wMd_takeNumber_37 (l : Launch) (G : zG) : ∀ (fuel : Nat) (v1 : Int32) (v3 : Int32) (v4 : Int32) (M : zM), zV eV l G zLY zRY 3 yX10_takeNumber cX10_takeNumber 6 none 37 [(0, .ref 0), (1, .int v1), (3, .int v3), (4, .int v4)] [] M (fMd_takeNumber_37 fuel v1 v3 v4 M) := by
  intro fuel
  induction fuel with
  | zero => intro v1 v3 v4 M; exact v_none
  | succ fuel ih =>
    intro v1 v3 v4 M
    rw [fMd_takeNumber_37]
    refine v_aload_n (pc := 37) dX10_takeNumber_37 rfl ?_
    refine v_getI (pc := 38) (q := 30) zk10 ly_0 rfl tw_1056 dX10_takeNumber_38 ?_
    refine v_aload_n (pc := 41) dX10_takeNumber_41 rfl ?_
    refine v_getI (pc := 42) (q := 29) zk10 ly_0 rfl tw_1055 dX10_takeNumber_42 ?_
    refine v_icmp_ge (pc := 45) 116 dX10_takeNumber_45 (by decide) ?_ ?_
    · exact v_sub (wMd_takeNumber_116 l G v1 v3 v4 M) rfl
    · refine v_aload_n (pc := 48) dX10_takeNumber_48 rfl ?_
      refine v_getR (pc := 49) (q := 28) zk10 ly_0 rfl ry_0_28 tw_1054 dX10_takeNumber_49 ?_
      refine v_aload_n (pc := 52) dX10_takeNumber_52 rfl ?_
      refine v_getI (pc := 53) (q := 30) zk10 ly_0 rfl tw_1056 dX10_takeNumber_53 ?_
      refine v_iald (pc := 56) ly_25 dX10_takeNumber_56 (fun x1 => ?_)
      refine v_i2l (pc := 57) dX10_takeNumber_57 ?_
      refine v_ldc2 (pc := 58) 48 tw_1444 dX10_takeNumber_58 ?_
      refine v_ldc2 (pc := 61) 57 tw_1445 dX10_takeNumber_61 ?_
      refine v_callS (pc := 64) (As := [.long x1.toInt64, .long 48, .long 57]) (cMd_in l G x1.toInt64 48 57 M) zc_X10_in tw_1153 (by decide) (Nat.le_of_ble_eq_true rfl) dX10_takeNumber_64 (fun r3 M2 => ?_)
      refine v_if_eq (pc := 67) 116 dX10_takeNumber_67 (by decide) ?_ ?_
      · exact v_sub (wMd_takeNumber_116 l G v1 v3 v4 M2) rfl
      · refine v_iload (pc := 70) dX10_takeNumber_70 rfl ?_
        refine v_sipush (pc := 72) 999 dX10_takeNumber_72 (by decide) ?_
        refine v_icmp_le (pc := 75) 83 dX10_takeNumber_75 (by decide) ?_ ?_
        · refine v_bipush (pc := 83) 10 dX10_takeNumber_83 (by decide) ?_
          refine v_iload (pc := 85) dX10_takeNumber_85 rfl ?_
          refine v_imul (pc := 87) dX10_takeNumber_87 ?_
          refine v_aload_n (pc := 88) dX10_takeNumber_88 rfl ?_
          refine v_getR (pc := 89) (q := 28) zk10 ly_0 rfl ry_0_28 tw_1054 dX10_takeNumber_89 ?_
          refine v_aload_n (pc := 92) dX10_takeNumber_92 rfl ?_
          refine v_getI (pc := 93) (q := 30) zk10 ly_0 rfl tw_1056 dX10_takeNumber_93 ?_
          refine v_iald (pc := 96) ly_25 dX10_takeNumber_96 (fun x4 => ?_)
          refine v_iadd (pc := 97) dX10_takeNumber_97 ?_
          refine v_bipush (pc := 98) 48 dX10_takeNumber_98 (by decide) ?_
          refine v_isub (pc := 100) dX10_takeNumber_100 ?_
          refine v_istoreL (pc := 101) dX10_takeNumber_101 (by decide) (fun u4_101 => ?_)
          refine v_aload_n (pc := 103) dX10_takeNumber_103 rfl ?_
          refine v_dup (pc := 104) dX10_takeNumber_104 rfl ?_
          refine v_getI (pc := 105) (q := 30) zk10 ly_0 rfl tw_1056 dX10_takeNumber_105 ?_
          refine v_iconst (pc := 108) 1 dX10_takeNumber_108 (by decide) ?_
          refine v_iadd (pc := 109) dX10_takeNumber_109 ?_
          refine v_putI (pc := 110) (q := 30) zk10 ly_0 rfl tw_1056 rfl rfl rfl dX10_takeNumber_110 (fun M5 => ?_)
          refine v_goto (pc := 113) 37 dX10_takeNumber_113 (by decide) ?_
          exact v_sub (ih v1 v3 u4_101 M5) rfl
        · refine v_iload (pc := 78) dX10_takeNumber_78 rfl ?_
          refine v_goto (pc := 80) 101 dX10_takeNumber_80 (by decide) ?_
          refine v_istore (pc := 101) dX10_takeNumber_101 (by decide) ?_
          refine v_aload_n (pc := 103) dX10_takeNumber_103 rfl ?_
          refine v_dup (pc := 104) dX10_takeNumber_104 rfl ?_
          refine v_getI (pc := 105) (q := 30) zk10 ly_0 rfl tw_1056 dX10_takeNumber_105 ?_
          refine v_iconst (pc := 108) 1 dX10_takeNumber_108 (by decide) ?_
          refine v_iadd (pc := 109) dX10_takeNumber_109 ?_
          refine v_putI (pc := 110) (q := 30) zk10 ly_0 rfl tw_1056 rfl rfl rfl dX10_takeNumber_110 (fun M6 => ?_)
          refine v_goto (pc := 113) 37 dX10_takeNumber_113 (by decide) ?_
          exact v_sub (ih v1 v3 v4 M6) rfl
theorem wMd_takeNumber (l : Launch) (G : zG) (v1 : Int32) (M : zM) : zV eV l G zLY zRY 3 yX10_takeNumber cX10_takeNumber 6 none 0 [(0, .ref 0), (1, .int v1)] [] M (fMd_takeNumber v1 M) := by
  rw [fMd_takeNumber]
  refine v_aload_n (pc := 0) dX10_takeNumber_0 rfl ?_
  refine v_callV (pc := 1) (As := []) (cMd_here l G  M) zc_X10_here zk10 rfl ly_0 tw_1418 (by decide) (Nat.le_of_ble_eq_true rfl) dX10_takeNumber_1 (fun r2 M1 => ?_)
  refine v_istore_n (pc := 4) dX10_takeNumber_4 (by decide) ?_
  refine v_aload_n (pc := 5) dX10_takeNumber_5 rfl ?_
  refine v_iload_n (pc := 6) dX10_takeNumber_6 rfl ?_
  refine v_i2l (pc := 7) dX10_takeNumber_7 ?_
  refine v_ldc2 (pc := 8) 48 tw_1444 dX10_takeNumber_8 ?_
  refine v_ldc2 (pc := 11) 57 tw_1445 dX10_takeNumber_11 ?_
  refine v_callS (pc := 14) (As := [.long r2.toInt64, .long 48, .long 57]) (cMd_in l G r2.toInt64 48 57 M1) zc_X10_in tw_1153 (by decide) (Nat.le_of_ble_eq_true rfl) dX10_takeNumber_14 (fun r4 M3 => ?_)
  refine v_iconst (pc := 17) 1 dX10_takeNumber_17 (by decide) ?_
  refine v_aload_n (pc := 18) dX10_takeNumber_18 rfl ?_
  refine v_getI (pc := 19) (q := 30) zk10 ly_0 rfl tw_1056 dX10_takeNumber_19 ?_
  refine v_callV (pc := 22) (As := [.int r4, .int 1, .int (M3 0 30)]) (cMd_want l G r4 1 (M3 0 30) M3) zc_X10_want zk10 rfl ly_0 tw_1436 (by decide) (Nat.le_of_ble_eq_true rfl) dX10_takeNumber_22 (fun r6 M5 => ?_)
  refine v_if_ne (pc := 25) 29 dX10_takeNumber_25 (by decide) ?_ ?_
  · refine v_aload_n (pc := 29) dX10_takeNumber_29 rfl ?_
    refine v_getI (pc := 30) (q := 30) zk10 ly_0 rfl tw_1056 dX10_takeNumber_30 ?_
    refine v_istore_nL (pc := 33) dX10_takeNumber_33 (by decide) (fun u3_33 => ?_)
    refine v_iconst (pc := 34) 0 dX10_takeNumber_34 (by decide) ?_
    refine v_istore (pc := 35) dX10_takeNumber_35 (by decide) ?_
    exact v_sub (wMd_takeNumber_37 l G FU v1 u3_33 0 M5) rfl
  · exact v_vret (pc := 28) dX10_takeNumber_28
theorem cMd_takeNumber (l : Launch) (G : zG) (v1 : Int32) (M : zM) : zC eV l G zLY zRY 3 yX10_takeNumber cX10_takeNumber 6 none [.ref 0, .int v1] M (fMd_takeNumber v1 M) := zC.of (by decide) (Nat.le_of_ble_eq_true rfl) (v_sub (wMd_takeNumber l G v1 M) rfl)
theorem dX10_answerOf_0 : decode cX10_answerOf 0 = .ok (.iload_n 1, 1) := by decide +kernel
theorem dX10_answerOf_1 : decode cX10_answerOf 1 = .ok (.iconst 3, 1) := by decide +kernel
theorem dX10_answerOf_2 : decode cX10_answerOf 2 = .ok (.if_icmp .ge 21, 3) := by decide +kernel
theorem dX10_answerOf_5 : decode cX10_answerOf 5 = .ok (.aload_n 0, 1) := by decide +kernel
theorem dX10_answerOf_6 : decode cX10_answerOf 6 = .ok (.iload_n 1, 1) := by decide +kernel
theorem dX10_answerOf_7 : decode cX10_answerOf 7 = .ok (.aload_n 0, 1) := by decide +kernel
theorem dX10_answerOf_8 : decode cX10_answerOf 8 = .ok (.getfield 96, 3) := by decide +kernel
theorem dX10_answerOf_11 : decode cX10_answerOf 11 = .ok (.iconst 0, 1) := by decide +kernel
theorem dX10_answerOf_12 : decode cX10_answerOf 12 = .ok (.iaload, 1) := by decide +kernel
theorem dX10_answerOf_13 : decode cX10_answerOf 13 = .ok (.aload_n 0, 1) := by decide +kernel
theorem dX10_answerOf_14 : decode cX10_answerOf 14 = .ok (.getfield 96, 3) := by decide +kernel
theorem dX10_answerOf_17 : decode cX10_answerOf 17 = .ok (.iconst 1, 1) := by decide +kernel
theorem dX10_answerOf_18 : decode cX10_answerOf 18 = .ok (.iaload, 1) := by decide +kernel
theorem dX10_answerOf_19 : decode cX10_answerOf 19 = .ok (.invokevirtual 295, 3) := by decide +kernel
theorem dX10_answerOf_22 : decode cX10_answerOf 22 = .ok (.ireturn, 1) := by decide +kernel
theorem dX10_answerOf_23 : decode cX10_answerOf 23 = .ok (.iload_n 1, 1) := by decide +kernel
theorem dX10_answerOf_24 : decode cX10_answerOf 24 = .ok (.iconst 4, 1) := by decide +kernel
theorem dX10_answerOf_25 : decode cX10_answerOf 25 = .ok (.if_icmp .ne 20, 3) := by decide +kernel
theorem dX10_answerOf_28 : decode cX10_answerOf 28 = .ok (.aload_n 0, 1) := by decide +kernel
theorem dX10_answerOf_29 : decode cX10_answerOf 29 = .ok (.aload_n 0, 1) := by decide +kernel
theorem dX10_answerOf_30 : decode cX10_answerOf 30 = .ok (.getfield 96, 3) := by decide +kernel
theorem dX10_answerOf_33 : decode cX10_answerOf 33 = .ok (.iconst 0, 1) := by decide +kernel
theorem dX10_answerOf_34 : decode cX10_answerOf 34 = .ok (.iaload, 1) := by decide +kernel
theorem dX10_answerOf_35 : decode cX10_answerOf 35 = .ok (.aload_n 0, 1) := by decide +kernel
theorem dX10_answerOf_36 : decode cX10_answerOf 36 = .ok (.getfield 96, 3) := by decide +kernel
theorem dX10_answerOf_39 : decode cX10_answerOf 39 = .ok (.iconst 1, 1) := by decide +kernel
theorem dX10_answerOf_40 : decode cX10_answerOf 40 = .ok (.iaload, 1) := by decide +kernel
theorem dX10_answerOf_41 : decode cX10_answerOf 41 = .ok (.invokevirtual 298, 3) := by decide +kernel
theorem dX10_answerOf_44 : decode cX10_answerOf 44 = .ok (.ireturn, 1) := by decide +kernel
theorem dX10_answerOf_45 : decode cX10_answerOf 45 = .ok (.iconst 0, 1) := by decide +kernel
theorem dX10_answerOf_46 : decode cX10_answerOf 46 = .ok (.istore_n 3, 1) := by decide +kernel
theorem dX10_answerOf_47 : decode cX10_answerOf 47 = .ok (.iconst 2, 1) := by decide +kernel
theorem dX10_answerOf_48 : decode cX10_answerOf 48 = .ok (.istore 4, 2) := by decide +kernel
theorem dX10_answerOf_50 : decode cX10_answerOf 50 = .ok (.iload 4, 2) := by decide +kernel
theorem dX10_answerOf_52 : decode cX10_answerOf 52 = .ok (.iload_n 2, 1) := by decide +kernel
theorem dX10_answerOf_53 : decode cX10_answerOf 53 = .ok (.if_icmp .ge 21, 3) := by decide +kernel
theorem dX10_answerOf_56 : decode cX10_answerOf 56 = .ok (.iload_n 3, 1) := by decide +kernel
theorem dX10_answerOf_57 : decode cX10_answerOf 57 = .ok (.iconst 1, 1) := by decide +kernel
theorem dX10_answerOf_58 : decode cX10_answerOf 58 = .ok (.aload_n 0, 1) := by decide +kernel
theorem dX10_answerOf_59 : decode cX10_answerOf 59 = .ok (.getfield 96, 3) := by decide +kernel
theorem dX10_answerOf_62 : decode cX10_answerOf 62 = .ok (.iload 4, 2) := by decide +kernel
theorem dX10_answerOf_64 : decode cX10_answerOf 64 = .ok (.iaload, 1) := by decide +kernel
theorem dX10_answerOf_65 : decode cX10_answerOf 65 = .ok (.ishl, 1) := by decide +kernel
theorem dX10_answerOf_66 : decode cX10_answerOf 66 = .ok (.ior, 1) := by decide +kernel
theorem dX10_answerOf_67 : decode cX10_answerOf 67 = .ok (.istore_n 3, 1) := by decide +kernel
theorem dX10_answerOf_68 : decode cX10_answerOf 68 = .ok (.iinc 4 1, 3) := by decide +kernel
theorem dX10_answerOf_71 : decode cX10_answerOf 71 = .ok (.goto (-21), 3) := by decide +kernel
theorem dX10_answerOf_74 : decode cX10_answerOf 74 = .ok (.aload_n 0, 1) := by decide +kernel
theorem dX10_answerOf_75 : decode cX10_answerOf 75 = .ok (.aload_n 0, 1) := by decide +kernel
theorem dX10_answerOf_76 : decode cX10_answerOf 76 = .ok (.getfield 96, 3) := by decide +kernel
theorem dX10_answerOf_79 : decode cX10_answerOf 79 = .ok (.iconst 0, 1) := by decide +kernel
theorem dX10_answerOf_80 : decode cX10_answerOf 80 = .ok (.iaload, 1) := by decide +kernel
theorem dX10_answerOf_81 : decode cX10_answerOf 81 = .ok (.aload_n 0, 1) := by decide +kernel
theorem dX10_answerOf_82 : decode cX10_answerOf 82 = .ok (.getfield 96, 3) := by decide +kernel
theorem dX10_answerOf_85 : decode cX10_answerOf 85 = .ok (.iconst 1, 1) := by decide +kernel
theorem dX10_answerOf_86 : decode cX10_answerOf 86 = .ok (.iaload, 1) := by decide +kernel
theorem dX10_answerOf_87 : decode cX10_answerOf 87 = .ok (.iload_n 3, 1) := by decide +kernel
theorem dX10_answerOf_88 : decode cX10_answerOf 88 = .ok (.invokevirtual 301, 3) := by decide +kernel
theorem dX10_answerOf_91 : decode cX10_answerOf 91 = .ok (.ireturn, 1) := by decide +kernel
theorem wMd_answerOf_50 (l : Launch) (G : zG) : ∀ (fuel : Nat) (v2 : Int32) (v3 : Int32) (v4 : Int32) (M : zM), zV eI l G zLY zRY 7 yX10_answerOf cX10_answerOf 5 (some .int) 50 [(0, .ref 0), (2, .int v2), (3, .int v3), (4, .int v4)] [] M (fMd_answerOf_50 fuel v2 v3 v4 M) := by
  intro fuel
  induction fuel with
  | zero => intro v2 v3 v4 M; exact v_none
  | succ fuel ih =>
    intro v2 v3 v4 M
    rw [fMd_answerOf_50]
    refine v_iload (pc := 50) dX10_answerOf_50 rfl ?_
    refine v_iload_n (pc := 52) dX10_answerOf_52 rfl ?_
    refine v_icmp_ge (pc := 53) 74 dX10_answerOf_53 (by decide) ?_ ?_
    · refine v_aload_n (pc := 74) dX10_answerOf_74 rfl ?_
      refine v_aload_n (pc := 75) dX10_answerOf_75 rfl ?_
      refine v_getR (pc := 76) (q := 39) zk10 ly_0 rfl ry_0_39 tw_1065 dX10_answerOf_76 ?_
      refine v_iconst (pc := 79) 0 dX10_answerOf_79 (by decide) ?_
      refine v_iald (pc := 80) ly_28 dX10_answerOf_80 (fun x1 => ?_)
      refine v_aload_n (pc := 81) dX10_answerOf_81 rfl ?_
      refine v_getR (pc := 82) (q := 39) zk10 ly_0 rfl ry_0_39 tw_1065 dX10_answerOf_82 ?_
      refine v_iconst (pc := 85) 1 dX10_answerOf_85 (by decide) ?_
      refine v_iald (pc := 86) ly_28 dX10_answerOf_86 (fun x2 => ?_)
      refine v_iload_n (pc := 87) dX10_answerOf_87 rfl ?_
      refine v_callV (pc := 88) (As := [.int x1, .int x2, .int v3]) (cMd_parted l G x1 x2 v3 M) zc_X10_parted zk10 rfl ly_0 tw_1452 (by decide) (Nat.le_of_ble_eq_true rfl) dX10_answerOf_88 (fun r4 M3 => ?_)
      exact v_iret (pc := 91) dX10_answerOf_91
    · refine v_iload_n (pc := 56) dX10_answerOf_56 rfl ?_
      refine v_iconst (pc := 57) 1 dX10_answerOf_57 (by decide) ?_
      refine v_aload_n (pc := 58) dX10_answerOf_58 rfl ?_
      refine v_getR (pc := 59) (q := 39) zk10 ly_0 rfl ry_0_39 tw_1065 dX10_answerOf_59 ?_
      refine v_iload (pc := 62) dX10_answerOf_62 rfl ?_
      refine v_iald (pc := 64) ly_28 dX10_answerOf_64 (fun x5 => ?_)
      refine v_ishl (pc := 65) dX10_answerOf_65 ?_
      refine v_ior (pc := 66) dX10_answerOf_66 ?_
      refine v_istore_nL (pc := 67) dX10_answerOf_67 (by decide) (fun u3_67 => ?_)
      refine v_iinc (pc := 68) 1 dX10_answerOf_68 rfl (by decide) (by decide) ?_
      refine v_goto (pc := 71) 50 dX10_answerOf_71 (by decide) ?_
      exact v_sub (ih v2 u3_67 (v4 + 1) M) rfl
theorem wMd_answerOf (l : Launch) (G : zG) (v1 : Int32) (v2 : Int32) (M : zM) : zV eI l G zLY zRY 7 yX10_answerOf cX10_answerOf 5 (some .int) 0 [(0, .ref 0), (1, .int v1), (2, .int v2)] [] M (fMd_answerOf v1 v2 M) := by
  rw [fMd_answerOf]
  refine v_iload_n (pc := 0) dX10_answerOf_0 rfl ?_
  refine v_iconst (pc := 1) 3 dX10_answerOf_1 (by decide) ?_
  refine v_icmp_ge (pc := 2) 23 dX10_answerOf_2 (by decide) ?_ ?_
  · refine v_iload_n (pc := 23) dX10_answerOf_23 rfl ?_
    refine v_iconst (pc := 24) 4 dX10_answerOf_24 (by decide) ?_
    refine v_icmp_ne (pc := 25) 45 dX10_answerOf_25 (by decide) ?_ ?_
    · refine v_iconst (pc := 45) 0 dX10_answerOf_45 (by decide) ?_
      refine v_istore_n (pc := 46) dX10_answerOf_46 (by decide) ?_
      refine v_iconst (pc := 47) 2 dX10_answerOf_47 (by decide) ?_
      refine v_istore (pc := 48) dX10_answerOf_48 (by decide) ?_
      exact v_sub (wMd_answerOf_50 l G FU v2 0 2 M) rfl
    · refine v_aload_n (pc := 28) dX10_answerOf_28 rfl ?_
      refine v_aload_n (pc := 29) dX10_answerOf_29 rfl ?_
      refine v_getR (pc := 30) (q := 39) zk10 ly_0 rfl ry_0_39 tw_1065 dX10_answerOf_30 ?_
      refine v_iconst (pc := 33) 0 dX10_answerOf_33 (by decide) ?_
      refine v_iald (pc := 34) ly_28 dX10_answerOf_34 (fun x1 => ?_)
      refine v_aload_n (pc := 35) dX10_answerOf_35 rfl ?_
      refine v_getR (pc := 36) (q := 39) zk10 ly_0 rfl ry_0_39 tw_1065 dX10_answerOf_36 ?_
      refine v_iconst (pc := 39) 1 dX10_answerOf_39 (by decide) ?_
      refine v_iald (pc := 40) ly_28 dX10_answerOf_40 (fun x2 => ?_)
      refine v_callV (pc := 41) (As := [.int x1, .int x2]) (cMd_next l G x1 x2 M) zc_X10_next zk10 rfl ly_0 tw_1451 (by decide) (Nat.le_of_ble_eq_true rfl) dX10_answerOf_41 (fun r4 M3 => ?_)
      exact v_iret (pc := 44) dX10_answerOf_44
  · refine v_aload_n (pc := 5) dX10_answerOf_5 rfl ?_
    refine v_iload_n (pc := 6) dX10_answerOf_6 rfl ?_
    refine v_aload_n (pc := 7) dX10_answerOf_7 rfl ?_
    refine v_getR (pc := 8) (q := 39) zk10 ly_0 rfl ry_0_39 tw_1065 dX10_answerOf_8 ?_
    refine v_iconst (pc := 11) 0 dX10_answerOf_11 (by decide) ?_
    refine v_iald (pc := 12) ly_28 dX10_answerOf_12 (fun x5 => ?_)
    refine v_aload_n (pc := 13) dX10_answerOf_13 rfl ?_
    refine v_getR (pc := 14) (q := 39) zk10 ly_0 rfl ry_0_39 tw_1065 dX10_answerOf_14 ?_
    refine v_iconst (pc := 17) 1 dX10_answerOf_17 (by decide) ?_
    refine v_iald (pc := 18) ly_28 dX10_answerOf_18 (fun x6 => ?_)
    refine v_callV (pc := 19) (As := [.int v1, .int x5, .int x6]) (cMd_ask l G v1 x5 x6 M) zc_X10_ask zk10 rfl ly_0 tw_1450 (by decide) (Nat.le_of_ble_eq_true rfl) dX10_answerOf_19 (fun r8 M7 => ?_)
    exact v_iret (pc := 22) dX10_answerOf_22
theorem cMd_answerOf (l : Launch) (G : zG) (v1 : Int32) (v2 : Int32) (M : zM) : zC eI l G zLY zRY 7 yX10_answerOf cX10_answerOf 5 (some .int) [.ref 0, .int v1, .int v2] M (fMd_answerOf v1 v2 M) := zC.of (by decide) (Nat.le_of_ble_eq_true rfl) (v_sub (wMd_answerOf l G v1 v2 M) rfl)
theorem dX10_readQuestion_0 : decode cX10_readQuestion 0 = .ok (.aload_n 0, 1) := by decide +kernel
theorem dX10_readQuestion_1 : decode cX10_readQuestion 1 = .ok (.invokevirtual 304, 3) := by decide +kernel
theorem dX10_readQuestion_4 : decode cX10_readQuestion 4 = .ok (.istore_n 1, 1) := by decide +kernel
theorem dX10_readQuestion_5 : decode cX10_readQuestion 5 = .ok (.aload_n 0, 1) := by decide +kernel
theorem dX10_readQuestion_6 : decode cX10_readQuestion 6 = .ok (.iload_n 1, 1) := by decide +kernel
theorem dX10_readQuestion_7 : decode cX10_readQuestion 7 = .ok (.ifCond .lt 7, 3) := by decide +kernel
theorem dX10_readQuestion_10 : decode cX10_readQuestion 10 = .ok (.iconst 1, 1) := by decide +kernel
theorem dX10_readQuestion_11 : decode cX10_readQuestion 11 = .ok (.goto 4, 3) := by decide +kernel
theorem dX10_readQuestion_14 : decode cX10_readQuestion 14 = .ok (.iconst 0, 1) := by decide +kernel
theorem dX10_readQuestion_15 : decode cX10_readQuestion 15 = .ok (.iconst 1, 1) := by decide +kernel
theorem dX10_readQuestion_16 : decode cX10_readQuestion 16 = .ok (.aload_n 0, 1) := by decide +kernel
theorem dX10_readQuestion_17 : decode cX10_readQuestion 17 = .ok (.getfield 272, 3) := by decide +kernel
theorem dX10_readQuestion_20 : decode cX10_readQuestion 20 = .ok (.invokevirtual 291, 3) := by decide +kernel
theorem dX10_readQuestion_23 : decode cX10_readQuestion 23 = .ok (.ifCond .eq 29, 3) := by decide +kernel
theorem dX10_readQuestion_26 : decode cX10_readQuestion 26 = .ok (.aload_n 0, 1) := by decide +kernel
theorem dX10_readQuestion_27 : decode cX10_readQuestion 27 = .ok (.aload_n 0, 1) := by decide +kernel
theorem dX10_readQuestion_28 : decode cX10_readQuestion 28 = .ok (.getfield 307, 3) := by decide +kernel
theorem dX10_readQuestion_31 : decode cX10_readQuestion 31 = .ok (.bipush 12, 2) := by decide +kernel
theorem dX10_readQuestion_33 : decode cX10_readQuestion 33 = .ok (.if_icmp .ge 7, 3) := by decide +kernel
theorem dX10_readQuestion_36 : decode cX10_readQuestion 36 = .ok (.iconst 1, 1) := by decide +kernel
theorem dX10_readQuestion_37 : decode cX10_readQuestion 37 = .ok (.goto 4, 3) := by decide +kernel
theorem dX10_readQuestion_40 : decode cX10_readQuestion 40 = .ok (.iconst 0, 1) := by decide +kernel
theorem dX10_readQuestion_41 : decode cX10_readQuestion 41 = .ok (.iconst 4, 1) := by decide +kernel
theorem dX10_readQuestion_42 : decode cX10_readQuestion 42 = .ok (.aload_n 0, 1) := by decide +kernel
theorem dX10_readQuestion_43 : decode cX10_readQuestion 43 = .ok (.getfield 272, 3) := by decide +kernel
theorem dX10_readQuestion_46 : decode cX10_readQuestion 46 = .ok (.invokevirtual 291, 3) := by decide +kernel
theorem dX10_readQuestion_49 : decode cX10_readQuestion 49 = .ok (.ifCond .ne 4, 3) := by decide +kernel
theorem dX10_readQuestion_52 : decode cX10_readQuestion 52 = .ok (.return_, 1) := by decide +kernel
theorem dX10_readQuestion_53 : decode cX10_readQuestion 53 = .ok (.iconst 0, 1) := by decide +kernel
theorem dX10_readQuestion_54 : decode cX10_readQuestion 54 = .ok (.istore_n 2, 1) := by decide +kernel
theorem dX10_readQuestion_55 : decode cX10_readQuestion 55 = .ok (.iconst 1, 1) := by decide +kernel
theorem dX10_readQuestion_56 : decode cX10_readQuestion 56 = .ok (.istore_n 3, 1) := by decide +kernel
theorem dX10_readQuestion_57 : decode cX10_readQuestion 57 = .ok (.iload_n 3, 1) := by decide +kernel
theorem dX10_readQuestion_58 : decode cX10_readQuestion 58 = .ok (.ifCond .eq 60, 3) := by decide +kernel
theorem dX10_readQuestion_61 : decode cX10_readQuestion 61 = .ok (.aload_n 0, 1) := by decide +kernel
theorem dX10_readQuestion_62 : decode cX10_readQuestion 62 = .ok (.getfield 266, 3) := by decide +kernel
theorem dX10_readQuestion_65 : decode cX10_readQuestion 65 = .ok (.ifCond .ne 53, 3) := by decide +kernel
theorem dX10_readQuestion_68 : decode cX10_readQuestion 68 = .ok (.aload_n 0, 1) := by decide +kernel
theorem dX10_readQuestion_69 : decode cX10_readQuestion 69 = .ok (.iload_n 2, 1) := by decide +kernel
theorem dX10_readQuestion_70 : decode cX10_readQuestion 70 = .ok (.invokevirtual 310, 3) := by decide +kernel
theorem dX10_readQuestion_73 : decode cX10_readQuestion 73 = .ok (.iinc 2 1, 3) := by decide +kernel
theorem dX10_readQuestion_76 : decode cX10_readQuestion 76 = .ok (.iload_n 2, 1) := by decide +kernel
theorem dX10_readQuestion_77 : decode cX10_readQuestion 77 = .ok (.iconst 2, 1) := by decide +kernel
theorem dX10_readQuestion_78 : decode cX10_readQuestion 78 = .ok (.if_icmp .lt 31, 3) := by decide +kernel
theorem dX10_readQuestion_81 : decode cX10_readQuestion 81 = .ok (.iload_n 1, 1) := by decide +kernel
theorem dX10_readQuestion_82 : decode cX10_readQuestion 82 = .ok (.iconst 3, 1) := by decide +kernel
theorem dX10_readQuestion_83 : decode cX10_readQuestion 83 = .ok (.if_icmp .ne 30, 3) := by decide +kernel
theorem dX10_readQuestion_86 : decode cX10_readQuestion 86 = .ok (.iload_n 2, 1) := by decide +kernel
theorem dX10_readQuestion_87 : decode cX10_readQuestion 87 = .ok (.bipush 8, 2) := by decide +kernel
theorem dX10_readQuestion_89 : decode cX10_readQuestion 89 = .ok (.if_icmp .ge 24, 3) := by decide +kernel
theorem dX10_readQuestion_92 : decode cX10_readQuestion 92 = .ok (.aload_n 0, 1) := by decide +kernel
theorem dX10_readQuestion_93 : decode cX10_readQuestion 93 = .ok (.invokevirtual 275, 3) := by decide +kernel
theorem dX10_readQuestion_96 : decode cX10_readQuestion 96 = .ok (.i2l, 1) := by decide +kernel
theorem dX10_readQuestion_97 : decode cX10_readQuestion 97 = .ok (.ldc2_w 287, 3) := by decide +kernel
theorem dX10_readQuestion_100 : decode cX10_readQuestion 100 = .ok (.ldc2_w 289, 3) := by decide +kernel
theorem dX10_readQuestion_103 : decode cX10_readQuestion 103 = .ok (.invokestatic 102, 3) := by decide +kernel
theorem dX10_readQuestion_106 : decode cX10_readQuestion 106 = .ok (.ifCond .eq 7, 3) := by decide +kernel
theorem dX10_readQuestion_109 : decode cX10_readQuestion 109 = .ok (.iconst 1, 1) := by decide +kernel
theorem dX10_readQuestion_110 : decode cX10_readQuestion 110 = .ok (.goto 4, 3) := by decide +kernel
theorem dX10_readQuestion_113 : decode cX10_readQuestion 113 = .ok (.iconst 0, 1) := by decide +kernel
theorem dX10_readQuestion_114 : decode cX10_readQuestion 114 = .ok (.istore_n 3, 1) := by decide +kernel
theorem dX10_readQuestion_115 : decode cX10_readQuestion 115 = .ok (.goto (-58), 3) := by decide +kernel
theorem dX10_readQuestion_118 : decode cX10_readQuestion 118 = .ok (.aload_n 0, 1) := by decide +kernel
theorem dX10_readQuestion_119 : decode cX10_readQuestion 119 = .ok (.invokevirtual 275, 3) := by decide +kernel
theorem dX10_readQuestion_122 : decode cX10_readQuestion 122 = .ok (.istore 4, 2) := by decide +kernel
theorem dX10_readQuestion_124 : decode cX10_readQuestion 124 = .ok (.aload_n 0, 1) := by decide +kernel
theorem dX10_readQuestion_125 : decode cX10_readQuestion 125 = .ok (.getfield 266, 3) := by decide +kernel
theorem dX10_readQuestion_128 : decode cX10_readQuestion 128 = .ok (.ifCond .gt 27, 3) := by decide +kernel
theorem dX10_readQuestion_131 : decode cX10_readQuestion 131 = .ok (.aload_n 0, 1) := by decide +kernel
theorem dX10_readQuestion_132 : decode cX10_readQuestion 132 = .ok (.iload 4, 2) := by decide +kernel
theorem dX10_readQuestion_134 : decode cX10_readQuestion 134 = .ok (.bipush 59, 2) := by decide +kernel
theorem dX10_readQuestion_136 : decode cX10_readQuestion 136 = .ok (.if_icmp .ne 7, 3) := by decide +kernel
theorem dX10_readQuestion_139 : decode cX10_readQuestion 139 = .ok (.iconst 1, 1) := by decide +kernel
theorem dX10_readQuestion_140 : decode cX10_readQuestion 140 = .ok (.goto 4, 3) := by decide +kernel
theorem dX10_readQuestion_143 : decode cX10_readQuestion 143 = .ok (.iconst 0, 1) := by decide +kernel
theorem dX10_readQuestion_144 : decode cX10_readQuestion 144 = .ok (.iconst 1, 1) := by decide +kernel
theorem dX10_readQuestion_145 : decode cX10_readQuestion 145 = .ok (.aload_n 0, 1) := by decide +kernel
theorem dX10_readQuestion_146 : decode cX10_readQuestion 146 = .ok (.getfield 263, 3) := by decide +kernel
theorem dX10_readQuestion_149 : decode cX10_readQuestion 149 = .ok (.invokevirtual 291, 3) := by decide +kernel
theorem dX10_readQuestion_152 : decode cX10_readQuestion 152 = .ok (.ifCond .ne 4, 3) := by decide +kernel
theorem dX10_readQuestion_155 : decode cX10_readQuestion 155 = .ok (.return_, 1) := by decide +kernel
theorem dX10_readQuestion_156 : decode cX10_readQuestion 156 = .ok (.aload_n 0, 1) := by decide +kernel
theorem dX10_readQuestion_157 : decode cX10_readQuestion 157 = .ok (.dup, 1) := by decide +kernel
theorem dX10_readQuestion_158 : decode cX10_readQuestion 158 = .ok (.getfield 263, 3) := by decide +kernel
theorem dX10_readQuestion_161 : decode cX10_readQuestion 161 = .ok (.iconst 1, 1) := by decide +kernel
theorem dX10_readQuestion_162 : decode cX10_readQuestion 162 = .ok (.iadd, 1) := by decide +kernel
theorem dX10_readQuestion_163 : decode cX10_readQuestion 163 = .ok (.putfield 263, 3) := by decide +kernel
theorem dX10_readQuestion_166 : decode cX10_readQuestion 166 = .ok (.aload_n 0, 1) := by decide +kernel
theorem dX10_readQuestion_167 : decode cX10_readQuestion 167 = .ok (.getfield 93, 3) := by decide +kernel
theorem dX10_readQuestion_170 : decode cX10_readQuestion 170 = .ok (.aload_n 0, 1) := by decide +kernel
theorem dX10_readQuestion_171 : decode cX10_readQuestion 171 = .ok (.getfield 307, 3) := by decide +kernel
theorem dX10_readQuestion_174 : decode cX10_readQuestion 174 = .ok (.aload_n 0, 1) := by decide +kernel
theorem dX10_readQuestion_175 : decode cX10_readQuestion 175 = .ok (.iload_n 1, 1) := by decide +kernel
theorem dX10_readQuestion_176 : decode cX10_readQuestion 176 = .ok (.iload_n 2, 1) := by decide +kernel
theorem dX10_readQuestion_177 : decode cX10_readQuestion 177 = .ok (.invokevirtual 313, 3) := by decide +kernel
theorem dX10_readQuestion_180 : decode cX10_readQuestion 180 = .ok (.iastore, 1) := by decide +kernel
theorem dX10_readQuestion_181 : decode cX10_readQuestion 181 = .ok (.aload_n 0, 1) := by decide +kernel
theorem dX10_readQuestion_182 : decode cX10_readQuestion 182 = .ok (.dup, 1) := by decide +kernel
theorem dX10_readQuestion_183 : decode cX10_readQuestion 183 = .ok (.getfield 307, 3) := by decide +kernel
theorem dX10_readQuestion_186 : decode cX10_readQuestion 186 = .ok (.iconst 1, 1) := by decide +kernel
theorem dX10_readQuestion_187 : decode cX10_readQuestion 187 = .ok (.iadd, 1) := by decide +kernel
theorem dX10_readQuestion_188 : decode cX10_readQuestion 188 = .ok (.putfield 307, 3) := by decide +kernel
theorem dX10_readQuestion_191 : decode cX10_readQuestion 191 = .ok (.return_, 1) := by decide +kernel
theorem wMd_readQuestion_144 (l : Launch) (G : zG) (v1 : Int32) (v2 : Int32) (vs0 : Int32) (M : zM) : zV eV l G zLY zRY 8 yX10_readQuestion cX10_readQuestion 5 none 144 [(0, .ref 0), (1, .int v1), (2, .int v2)] [.int vs0, .ref 0] M (fMd_readQuestion_144 v1 v2 vs0 M) := by
  rw [fMd_readQuestion_144]
  refine v_iconst (pc := 144) 1 dX10_readQuestion_144 (by decide) ?_
  refine v_aload_n (pc := 145) dX10_readQuestion_145 rfl ?_
  refine v_getI (pc := 146) (q := 30) zk10 ly_0 rfl tw_1056 dX10_readQuestion_146 ?_
  refine v_callV (pc := 149) (As := [.int vs0, .int 1, .int (M 0 30)]) (cMd_want l G vs0 1 (M 0 30) M) zc_X10_want zk10 rfl ly_0 tw_1436 (by decide) (Nat.le_of_ble_eq_true rfl) dX10_readQuestion_149 (fun r2 M1 => ?_)
  refine v_if_ne (pc := 152) 156 dX10_readQuestion_152 (by decide) ?_ ?_
  · refine v_aload_n (pc := 156) dX10_readQuestion_156 rfl ?_
    refine v_dup (pc := 157) dX10_readQuestion_157 rfl ?_
    refine v_getI (pc := 158) (q := 30) zk10 ly_0 rfl tw_1056 dX10_readQuestion_158 ?_
    refine v_iconst (pc := 161) 1 dX10_readQuestion_161 (by decide) ?_
    refine v_iadd (pc := 162) dX10_readQuestion_162 ?_
    refine v_putI (pc := 163) (q := 30) zk10 ly_0 rfl tw_1056 rfl rfl rfl dX10_readQuestion_163 (fun M3 => ?_)
    refine v_aload_n (pc := 166) dX10_readQuestion_166 rfl ?_
    refine v_getR (pc := 167) (q := 37) zk10 ly_0 rfl ry_0_37 tw_1063 dX10_readQuestion_167 ?_
    refine v_aload_n (pc := 170) dX10_readQuestion_170 rfl ?_
    refine v_getI (pc := 171) (q := 38) zk10 ly_0 rfl tw_1064 dX10_readQuestion_171 ?_
    refine v_aload_n (pc := 174) dX10_readQuestion_174 rfl ?_
    refine v_iload_n (pc := 175) dX10_readQuestion_175 rfl ?_
    refine v_iload_n (pc := 176) dX10_readQuestion_176 rfl ?_
    refine v_callV (pc := 177) (As := [.int v1, .int v2]) (cMd_answerOf l G v1 v2 M3) zc_X10_answerOf zk10 rfl ly_0 tw_1446 (by decide) (Nat.le_of_ble_eq_true rfl) dX10_readQuestion_177 (fun r5 M4 => ?_)
    refine v_iast (pc := 180) ly_27 dX10_readQuestion_180 (fun M6 => ?_)
    refine v_aload_n (pc := 181) dX10_readQuestion_181 rfl ?_
    refine v_dup (pc := 182) dX10_readQuestion_182 rfl ?_
    refine v_getI (pc := 183) (q := 38) zk10 ly_0 rfl tw_1064 dX10_readQuestion_183 ?_
    refine v_iconst (pc := 186) 1 dX10_readQuestion_186 (by decide) ?_
    refine v_iadd (pc := 187) dX10_readQuestion_187 ?_
    refine v_putI (pc := 188) (q := 38) zk10 ly_0 rfl tw_1064 rfl rfl rfl dX10_readQuestion_188 (fun M7 => ?_)
    exact v_vret (pc := 191) dX10_readQuestion_191
  · exact v_vret (pc := 155) dX10_readQuestion_155
theorem wMd_readQuestion_118 (l : Launch) (G : zG) (v1 : Int32) (v2 : Int32) (M : zM) : zV eV l G zLY zRY 8 yX10_readQuestion cX10_readQuestion 5 none 118 [(0, .ref 0), (1, .int v1), (2, .int v2)] [] M (fMd_readQuestion_118 v1 v2 M) := by
  rw [fMd_readQuestion_118]
  refine v_aload_n (pc := 118) dX10_readQuestion_118 rfl ?_
  refine v_callV (pc := 119) (As := []) (cMd_here l G  M) zc_X10_here zk10 rfl ly_0 tw_1418 (by decide) (Nat.le_of_ble_eq_true rfl) dX10_readQuestion_119 (fun r2 M1 => ?_)
  refine v_istore (pc := 122) dX10_readQuestion_122 (by decide) ?_
  refine v_aload_n (pc := 124) dX10_readQuestion_124 rfl ?_
  refine v_getI (pc := 125) (q := 31) zk10 ly_0 rfl tw_1057 dX10_readQuestion_125 ?_
  refine v_if_gt (pc := 128) 155 dX10_readQuestion_128 (by decide) ?_ ?_
  · exact v_vret (pc := 155) dX10_readQuestion_155
  · refine v_aload_n (pc := 131) dX10_readQuestion_131 rfl ?_
    refine v_iload (pc := 132) dX10_readQuestion_132 rfl ?_
    refine v_bipush (pc := 134) 59 dX10_readQuestion_134 (by decide) ?_
    refine v_icmp_ne (pc := 136) 143 dX10_readQuestion_136 (by decide) ?_ ?_
    · refine v_iconst (pc := 143) 0 dX10_readQuestion_143 (by decide) ?_
      exact v_sub (wMd_readQuestion_144 l G v1 v2 0 M1) rfl
    · refine v_iconst (pc := 139) 1 dX10_readQuestion_139 (by decide) ?_
      refine v_goto (pc := 140) 144 dX10_readQuestion_140 (by decide) ?_
      exact v_sub (wMd_readQuestion_144 l G v1 v2 1 M1) rfl
theorem wMd_readQuestion_57 (l : Launch) (G : zG) : ∀ (fuel : Nat) (v1 : Int32) (v2 : Int32) (v3 : Int32) (M : zM), zV eV l G zLY zRY 8 yX10_readQuestion cX10_readQuestion 5 none 57 [(0, .ref 0), (1, .int v1), (2, .int v2), (3, .int v3)] [] M (fMd_readQuestion_57 fuel v1 v2 v3 M) := by
  intro fuel
  induction fuel with
  | zero => intro v1 v2 v3 M; exact v_none
  | succ fuel ih =>
    intro v1 v2 v3 M
    rw [fMd_readQuestion_57]
    refine v_iload_n (pc := 57) dX10_readQuestion_57 rfl ?_
    refine v_if_eq (pc := 58) 118 dX10_readQuestion_58 (by decide) ?_ ?_
    · exact v_sub (wMd_readQuestion_118 l G v1 v2 M) rfl
    · refine v_aload_n (pc := 61) dX10_readQuestion_61 rfl ?_
      refine v_getI (pc := 62) (q := 31) zk10 ly_0 rfl tw_1057 dX10_readQuestion_62 ?_
      refine v_if_ne (pc := 65) 118 dX10_readQuestion_65 (by decide) ?_ ?_
      · exact v_sub (wMd_readQuestion_118 l G v1 v2 M) rfl
      · refine v_aload_n (pc := 68) dX10_readQuestion_68 rfl ?_
        refine v_iload_n (pc := 69) dX10_readQuestion_69 rfl ?_
        refine v_callV (pc := 70) (As := [.int v2]) (cMd_takeNumber l G v2 M) zc_X10_takeNumber zk10 rfl ly_0 tw_1440 (by decide) (Nat.le_of_ble_eq_true rfl) dX10_readQuestion_70 (fun _ M1 => ?_)
        skip
        refine v_iinc (pc := 73) 1 dX10_readQuestion_73 rfl (by decide) (by decide) ?_
        refine v_iload_n (pc := 76) dX10_readQuestion_76 rfl ?_
        refine v_iconst (pc := 77) 2 dX10_readQuestion_77 (by decide) ?_
        refine v_icmp_lt (pc := 78) 109 dX10_readQuestion_78 (by decide) ?_ ?_
        · refine v_iconst (pc := 109) 1 dX10_readQuestion_109 (by decide) ?_
          refine v_goto (pc := 110) 114 dX10_readQuestion_110 (by decide) ?_
          refine v_istore_n (pc := 114) dX10_readQuestion_114 (by decide) ?_
          refine v_goto (pc := 115) 57 dX10_readQuestion_115 (by decide) ?_
          exact v_sub (ih v1 (v2 + 1) 1 M1) rfl
        · refine v_iload_n (pc := 81) dX10_readQuestion_81 rfl ?_
          refine v_iconst (pc := 82) 3 dX10_readQuestion_82 (by decide) ?_
          refine v_icmp_ne (pc := 83) 113 dX10_readQuestion_83 (by decide) ?_ ?_
          · refine v_iconst (pc := 113) 0 dX10_readQuestion_113 (by decide) ?_
            refine v_istore_n (pc := 114) dX10_readQuestion_114 (by decide) ?_
            refine v_goto (pc := 115) 57 dX10_readQuestion_115 (by decide) ?_
            exact v_sub (ih v1 (v2 + 1) 0 M1) rfl
          · refine v_iload_n (pc := 86) dX10_readQuestion_86 rfl ?_
            refine v_bipush (pc := 87) 8 dX10_readQuestion_87 (by decide) ?_
            refine v_icmp_ge (pc := 89) 113 dX10_readQuestion_89 (by decide) ?_ ?_
            · refine v_iconst (pc := 113) 0 dX10_readQuestion_113 (by decide) ?_
              refine v_istore_n (pc := 114) dX10_readQuestion_114 (by decide) ?_
              refine v_goto (pc := 115) 57 dX10_readQuestion_115 (by decide) ?_
              exact v_sub (ih v1 (v2 + 1) 0 M1) rfl
            · refine v_aload_n (pc := 92) dX10_readQuestion_92 rfl ?_
              refine v_callV (pc := 93) (As := []) (cMd_here l G  M1) zc_X10_here zk10 rfl ly_0 tw_1418 (by decide) (Nat.le_of_ble_eq_true rfl) dX10_readQuestion_93 (fun r3 M2 => ?_)
              refine v_i2l (pc := 96) dX10_readQuestion_96 ?_
              refine v_ldc2 (pc := 97) 48 tw_1444 dX10_readQuestion_97 ?_
              refine v_ldc2 (pc := 100) 57 tw_1445 dX10_readQuestion_100 ?_
              refine v_callS (pc := 103) (As := [.long r3.toInt64, .long 48, .long 57]) (cMd_in l G r3.toInt64 48 57 M2) zc_X10_in tw_1153 (by decide) (Nat.le_of_ble_eq_true rfl) dX10_readQuestion_103 (fun r5 M4 => ?_)
              refine v_if_eq (pc := 106) 113 dX10_readQuestion_106 (by decide) ?_ ?_
              · refine v_iconst (pc := 113) 0 dX10_readQuestion_113 (by decide) ?_
                refine v_istore_n (pc := 114) dX10_readQuestion_114 (by decide) ?_
                refine v_goto (pc := 115) 57 dX10_readQuestion_115 (by decide) ?_
                exact v_sub (ih v1 (v2 + 1) 0 M4) rfl
              · refine v_iconst (pc := 109) 1 dX10_readQuestion_109 (by decide) ?_
                refine v_goto (pc := 110) 114 dX10_readQuestion_110 (by decide) ?_
                refine v_istore_n (pc := 114) dX10_readQuestion_114 (by decide) ?_
                refine v_goto (pc := 115) 57 dX10_readQuestion_115 (by decide) ?_
                exact v_sub (ih v1 (v2 + 1) 1 M4) rfl
theorem wMd_readQuestion_41 (l : Launch) (G : zG) (v1 : Int32) (vs0 : Int32) (M : zM) : zV eV l G zLY zRY 8 yX10_readQuestion cX10_readQuestion 5 none 41 [(0, .ref 0), (1, .int v1)] [.int vs0, .ref 0] M (fMd_readQuestion_41 v1 vs0 M) := by
  rw [fMd_readQuestion_41]
  refine v_iconst (pc := 41) 4 dX10_readQuestion_41 (by decide) ?_
  refine v_aload_n (pc := 42) dX10_readQuestion_42 rfl ?_
  refine v_getI (pc := 43) (q := 33) zk10 ly_0 rfl tw_1059 dX10_readQuestion_43 ?_
  refine v_callV (pc := 46) (As := [.int vs0, .int 4, .int (M 0 33)]) (cMd_want l G vs0 4 (M 0 33) M) zc_X10_want zk10 rfl ly_0 tw_1436 (by decide) (Nat.le_of_ble_eq_true rfl) dX10_readQuestion_46 (fun r2 M1 => ?_)
  refine v_if_ne (pc := 49) 53 dX10_readQuestion_49 (by decide) ?_ ?_
  · refine v_iconst (pc := 53) 0 dX10_readQuestion_53 (by decide) ?_
    refine v_istore_n (pc := 54) dX10_readQuestion_54 (by decide) ?_
    refine v_iconst (pc := 55) 1 dX10_readQuestion_55 (by decide) ?_
    refine v_istore_n (pc := 56) dX10_readQuestion_56 (by decide) ?_
    exact v_sub (wMd_readQuestion_57 l G FU v1 0 1 M1) rfl
  · exact v_vret (pc := 52) dX10_readQuestion_52
theorem wMd_readQuestion_15 (l : Launch) (G : zG) (v1 : Int32) (vs0 : Int32) (M : zM) : zV eV l G zLY zRY 8 yX10_readQuestion cX10_readQuestion 5 none 15 [(0, .ref 0), (1, .int v1)] [.int vs0, .ref 0] M (fMd_readQuestion_15 v1 vs0 M) := by
  rw [fMd_readQuestion_15]
  refine v_iconst (pc := 15) 1 dX10_readQuestion_15 (by decide) ?_
  refine v_aload_n (pc := 16) dX10_readQuestion_16 rfl ?_
  refine v_getI (pc := 17) (q := 33) zk10 ly_0 rfl tw_1059 dX10_readQuestion_17 ?_
  refine v_callV (pc := 20) (As := [.int vs0, .int 1, .int (M 0 33)]) (cMd_want l G vs0 1 (M 0 33) M) zc_X10_want zk10 rfl ly_0 tw_1436 (by decide) (Nat.le_of_ble_eq_true rfl) dX10_readQuestion_20 (fun r2 M1 => ?_)
  refine v_if_eq (pc := 23) 52 dX10_readQuestion_23 (by decide) ?_ ?_
  · exact v_vret (pc := 52) dX10_readQuestion_52
  · refine v_aload_n (pc := 26) dX10_readQuestion_26 rfl ?_
    refine v_aload_n (pc := 27) dX10_readQuestion_27 rfl ?_
    refine v_getI (pc := 28) (q := 38) zk10 ly_0 rfl tw_1064 dX10_readQuestion_28 ?_
    refine v_bipush (pc := 31) 12 dX10_readQuestion_31 (by decide) ?_
    refine v_icmp_ge (pc := 33) 40 dX10_readQuestion_33 (by decide) ?_ ?_
    · refine v_iconst (pc := 40) 0 dX10_readQuestion_40 (by decide) ?_
      exact v_sub (wMd_readQuestion_41 l G v1 0 M1) rfl
    · refine v_iconst (pc := 36) 1 dX10_readQuestion_36 (by decide) ?_
      refine v_goto (pc := 37) 41 dX10_readQuestion_37 (by decide) ?_
      exact v_sub (wMd_readQuestion_41 l G v1 1 M1) rfl
theorem wMd_readQuestion (l : Launch) (G : zG)  (M : zM) : zV eV l G zLY zRY 8 yX10_readQuestion cX10_readQuestion 5 none 0 [(0, .ref 0)] [] M (fMd_readQuestion  M) := by
  rw [fMd_readQuestion]
  refine v_aload_n (pc := 0) dX10_readQuestion_0 rfl ?_
  refine v_callV (pc := 1) (As := []) (cMd_takeQuestion l G  M) zc_X10_takeQuestion zk10 rfl ly_0 tw_1426 (by decide) (Nat.le_of_ble_eq_true rfl) dX10_readQuestion_1 (fun r2 M1 => ?_)
  refine v_istore_n (pc := 4) dX10_readQuestion_4 (by decide) ?_
  refine v_aload_n (pc := 5) dX10_readQuestion_5 rfl ?_
  refine v_iload_n (pc := 6) dX10_readQuestion_6 rfl ?_
  refine v_if_lt (pc := 7) 14 dX10_readQuestion_7 (by decide) ?_ ?_
  · refine v_iconst (pc := 14) 0 dX10_readQuestion_14 (by decide) ?_
    exact v_sub (wMd_readQuestion_15 l G r2 0 M1) rfl
  · refine v_iconst (pc := 10) 1 dX10_readQuestion_10 (by decide) ?_
    refine v_goto (pc := 11) 15 dX10_readQuestion_11 (by decide) ?_
    exact v_sub (wMd_readQuestion_15 l G r2 1 M1) rfl
theorem cMd_readQuestion (l : Launch) (G : zG)  (M : zM) : zC eV l G zLY zRY 8 yX10_readQuestion cX10_readQuestion 5 none [.ref 0] M (fMd_readQuestion  M) := zC.of (by decide) (Nat.le_of_ble_eq_true rfl) (v_sub (wMd_readQuestion l G  M) rfl)
theorem dX10_read_0 : decode cX10_read 0 = .ok (.aload_n 0, 1) := by decide +kernel
theorem dX10_read_1 : decode cX10_read 1 = .ok (.iconst 0, 1) := by decide +kernel
theorem dX10_read_2 : decode cX10_read 2 = .ok (.putfield 263, 3) := by decide +kernel
theorem dX10_read_5 : decode cX10_read 5 = .ok (.aload_n 0, 1) := by decide +kernel
theorem dX10_read_6 : decode cX10_read 6 = .ok (.iconst 0, 1) := by decide +kernel
theorem dX10_read_7 : decode cX10_read 7 = .ok (.putfield 266, 3) := by decide +kernel
theorem dX10_read_10 : decode cX10_read 10 = .ok (.aload_n 0, 1) := by decide +kernel
theorem dX10_read_11 : decode cX10_read 11 = .ok (.iconst (-1), 1) := by decide +kernel
theorem dX10_read_12 : decode cX10_read 12 = .ok (.putfield 86, 3) := by decide +kernel
theorem dX10_read_15 : decode cX10_read 15 = .ok (.aload_n 0, 1) := by decide +kernel
theorem dX10_read_16 : decode cX10_read 16 = .ok (.iconst 0, 1) := by decide +kernel
theorem dX10_read_17 : decode cX10_read 17 = .ok (.putfield 307, 3) := by decide +kernel
theorem dX10_read_20 : decode cX10_read 20 = .ok (.aload_n 0, 1) := by decide +kernel
theorem dX10_read_21 : decode cX10_read 21 = .ok (.getfield 266, 3) := by decide +kernel
theorem dX10_read_24 : decode cX10_read 24 = .ok (.ifCond .ne 17, 3) := by decide +kernel
theorem dX10_read_27 : decode cX10_read 27 = .ok (.aload_n 0, 1) := by decide +kernel
theorem dX10_read_28 : decode cX10_read 28 = .ok (.invokevirtual 275, 3) := by decide +kernel
theorem dX10_read_31 : decode cX10_read 31 = .ok (.ifCond .lt 10, 3) := by decide +kernel
theorem dX10_read_34 : decode cX10_read 34 = .ok (.aload_n 0, 1) := by decide +kernel
theorem dX10_read_35 : decode cX10_read 35 = .ok (.invokevirtual 316, 3) := by decide +kernel
theorem dX10_read_38 : decode cX10_read 38 = .ok (.goto (-18), 3) := by decide +kernel
theorem dX10_read_41 : decode cX10_read 41 = .ok (.aload_n 0, 1) := by decide +kernel
theorem dX10_read_42 : decode cX10_read 42 = .ok (.iconst 0, 1) := by decide +kernel
theorem dX10_read_43 : decode cX10_read 43 = .ok (.putfield 174, 3) := by decide +kernel
theorem dX10_read_46 : decode cX10_read 46 = .ok (.aload_n 0, 1) := by decide +kernel
theorem dX10_read_47 : decode cX10_read 47 = .ok (.getfield 266, 3) := by decide +kernel
theorem dX10_read_50 : decode cX10_read 50 = .ok (.ifCond .le 11, 3) := by decide +kernel
theorem dX10_read_53 : decode cX10_read 53 = .ok (.bipush (-10), 2) := by decide +kernel
theorem dX10_read_55 : decode cX10_read 55 = .ok (.aload_n 0, 1) := by decide +kernel
theorem dX10_read_56 : decode cX10_read 56 = .ok (.getfield 266, 3) := by decide +kernel
theorem dX10_read_59 : decode cX10_read 59 = .ok (.isub, 1) := by decide +kernel
theorem dX10_read_60 : decode cX10_read 60 = .ok (.ireturn, 1) := by decide +kernel
theorem dX10_read_61 : decode cX10_read 61 = .ok (.iconst 0, 1) := by decide +kernel
theorem dX10_read_62 : decode cX10_read 62 = .ok (.istore_n 1, 1) := by decide +kernel
theorem dX10_read_63 : decode cX10_read 63 = .ok (.iload_n 1, 1) := by decide +kernel
theorem dX10_read_64 : decode cX10_read 64 = .ok (.aload_n 0, 1) := by decide +kernel
theorem dX10_read_65 : decode cX10_read 65 = .ok (.getfield 307, 3) := by decide +kernel
theorem dX10_read_68 : decode cX10_read 68 = .ok (.if_icmp .ge 21, 3) := by decide +kernel
theorem dX10_read_71 : decode cX10_read 71 = .ok (.aload_n 0, 1) := by decide +kernel
theorem dX10_read_72 : decode cX10_read 72 = .ok (.getfield 90, 3) := by decide +kernel
theorem dX10_read_75 : decode cX10_read 75 = .ok (.iload_n 1, 1) := by decide +kernel
theorem dX10_read_76 : decode cX10_read 76 = .ok (.aload_n 0, 1) := by decide +kernel
theorem dX10_read_77 : decode cX10_read 77 = .ok (.getfield 93, 3) := by decide +kernel
theorem dX10_read_80 : decode cX10_read 80 = .ok (.iload_n 1, 1) := by decide +kernel
theorem dX10_read_81 : decode cX10_read 81 = .ok (.iaload, 1) := by decide +kernel
theorem dX10_read_82 : decode cX10_read 82 = .ok (.iastore, 1) := by decide +kernel
theorem dX10_read_83 : decode cX10_read 83 = .ok (.iinc 1 1, 3) := by decide +kernel
theorem dX10_read_86 : decode cX10_read 86 = .ok (.goto (-23), 3) := by decide +kernel
theorem dX10_read_89 : decode cX10_read 89 = .ok (.aload_n 0, 1) := by decide +kernel
theorem dX10_read_90 : decode cX10_read 90 = .ok (.aload_n 0, 1) := by decide +kernel
theorem dX10_read_91 : decode cX10_read 91 = .ok (.getfield 307, 3) := by decide +kernel
theorem dX10_read_94 : decode cX10_read 94 = .ok (.putfield 177, 3) := by decide +kernel
theorem dX10_read_97 : decode cX10_read 97 = .ok (.aload_n 0, 1) := by decide +kernel
theorem dX10_read_98 : decode cX10_read 98 = .ok (.getfield 177, 3) := by decide +kernel
theorem dX10_read_101 : decode cX10_read 101 = .ok (.ireturn, 1) := by decide +kernel
theorem wMd_read_63 (l : Launch) (G : zG) : ∀ (fuel : Nat) (v1 : Int32) (M : zM), zV eI l G zLY zRY 9 yX10_read cX10_read 2 (some .int) 63 [(0, .ref 0), (1, .int v1)] [] M (fMd_read_63 fuel v1 M) := by
  intro fuel
  induction fuel with
  | zero => intro v1 M; exact v_none
  | succ fuel ih =>
    intro v1 M
    rw [fMd_read_63]
    refine v_iload_n (pc := 63) dX10_read_63 rfl ?_
    refine v_aload_n (pc := 64) dX10_read_64 rfl ?_
    refine v_getI (pc := 65) (q := 38) zk10 ly_0 rfl tw_1064 dX10_read_65 ?_
    refine v_icmp_ge (pc := 68) 89 dX10_read_68 (by decide) ?_ ?_
    · refine v_aload_n (pc := 89) dX10_read_89 rfl ?_
      refine v_aload_n (pc := 90) dX10_read_90 rfl ?_
      refine v_getI (pc := 91) (q := 38) zk10 ly_0 rfl tw_1064 dX10_read_91 ?_
      refine v_putI (pc := 94) (q := 35) zk10 ly_0 rfl tw_1061 rfl rfl rfl dX10_read_94 (fun M1 => ?_)
      refine v_aload_n (pc := 97) dX10_read_97 rfl ?_
      refine v_getI (pc := 98) (q := 35) zk10 ly_0 rfl tw_1061 dX10_read_98 ?_
      exact v_iret (pc := 101) dX10_read_101
    · refine v_aload_n (pc := 71) dX10_read_71 rfl ?_
      refine v_getR (pc := 72) (q := 36) zk10 ly_0 rfl ry_0_36 tw_1062 dX10_read_72 ?_
      refine v_iload_n (pc := 75) dX10_read_75 rfl ?_
      refine v_aload_n (pc := 76) dX10_read_76 rfl ?_
      refine v_getR (pc := 77) (q := 37) zk10 ly_0 rfl ry_0_37 tw_1063 dX10_read_77 ?_
      refine v_iload_n (pc := 80) dX10_read_80 rfl ?_
      refine v_iald (pc := 81) ly_27 dX10_read_81 (fun x2 => ?_)
      refine v_iast (pc := 82) ly_26 dX10_read_82 (fun M3 => ?_)
      refine v_iinc (pc := 83) 1 dX10_read_83 rfl (by decide) (by decide) ?_
      refine v_goto (pc := 86) 63 dX10_read_86 (by decide) ?_
      exact v_sub (ih (v1 + 1) M3) rfl
theorem wMd_read_41 (l : Launch) (G : zG)  (M : zM) : zV eI l G zLY zRY 9 yX10_read cX10_read 2 (some .int) 41 [(0, .ref 0)] [] M (fMd_read_41  M) := by
  rw [fMd_read_41]
  refine v_aload_n (pc := 41) dX10_read_41 rfl ?_
  refine v_iconst (pc := 42) 0 dX10_read_42 (by decide) ?_
  refine v_putI (pc := 43) (q := 29) zk10 ly_0 rfl tw_1055 rfl rfl rfl dX10_read_43 (fun M1 => ?_)
  refine v_aload_n (pc := 46) dX10_read_46 rfl ?_
  refine v_getI (pc := 47) (q := 31) zk10 ly_0 rfl tw_1057 dX10_read_47 ?_
  refine v_if_le (pc := 50) 61 dX10_read_50 (by decide) ?_ ?_
  · refine v_iconst (pc := 61) 0 dX10_read_61 (by decide) ?_
    refine v_istore_n (pc := 62) dX10_read_62 (by decide) ?_
    exact v_sub (wMd_read_63 l G FU 0 M1) rfl
  · refine v_bipush (pc := 53) (-10) dX10_read_53 (by decide) ?_
    refine v_aload_n (pc := 55) dX10_read_55 rfl ?_
    refine v_getI (pc := 56) (q := 31) zk10 ly_0 rfl tw_1057 dX10_read_56 ?_
    refine v_isub (pc := 59) dX10_read_59 ?_
    exact v_iret (pc := 60) dX10_read_60
theorem wMd_read_20 (l : Launch) (G : zG) : ∀ (fuel : Nat)  (M : zM), zV eI l G zLY zRY 9 yX10_read cX10_read 2 (some .int) 20 [(0, .ref 0)] [] M (fMd_read_20 fuel  M) := by
  intro fuel
  induction fuel with
  | zero => intro  M; exact v_none
  | succ fuel ih =>
    intro  M
    rw [fMd_read_20]
    refine v_aload_n (pc := 20) dX10_read_20 rfl ?_
    refine v_getI (pc := 21) (q := 31) zk10 ly_0 rfl tw_1057 dX10_read_21 ?_
    refine v_if_ne (pc := 24) 41 dX10_read_24 (by decide) ?_ ?_
    · exact v_sub (wMd_read_41 l G  M) rfl
    · refine v_aload_n (pc := 27) dX10_read_27 rfl ?_
      refine v_callV (pc := 28) (As := []) (cMd_here l G  M) zc_X10_here zk10 rfl ly_0 tw_1418 (by decide) (Nat.le_of_ble_eq_true rfl) dX10_read_28 (fun r2 M1 => ?_)
      refine v_if_lt (pc := 31) 41 dX10_read_31 (by decide) ?_ ?_
      · exact v_sub (wMd_read_41 l G  M1) rfl
      · refine v_aload_n (pc := 34) dX10_read_34 rfl ?_
        refine v_callV (pc := 35) (As := []) (cMd_readQuestion l G  M1) zc_X10_readQuestion zk10 rfl ly_0 tw_1422 (by decide) (Nat.le_of_ble_eq_true rfl) dX10_read_35 (fun _ M3 => ?_)
        skip
        refine v_goto (pc := 38) 20 dX10_read_38 (by decide) ?_
        exact v_sub (ih  M3) rfl
theorem wMd_read (l : Launch) (G : zG)  (M : zM) : zV eI l G zLY zRY 9 yX10_read cX10_read 2 (some .int) 0 [(0, .ref 0)] [] M (fMd_read  M) := by
  rw [fMd_read]
  refine v_aload_n (pc := 0) dX10_read_0 rfl ?_
  refine v_iconst (pc := 1) 0 dX10_read_1 (by decide) ?_
  refine v_putI (pc := 2) (q := 30) zk10 ly_0 rfl tw_1056 rfl rfl rfl dX10_read_2 (fun M1 => ?_)
  refine v_aload_n (pc := 5) dX10_read_5 rfl ?_
  refine v_iconst (pc := 6) 0 dX10_read_6 (by decide) ?_
  refine v_putI (pc := 7) (q := 31) zk10 ly_0 rfl tw_1057 rfl rfl rfl dX10_read_7 (fun M2 => ?_)
  refine v_aload_n (pc := 10) dX10_read_10 rfl ?_
  refine v_iconst (pc := 11) (-1) dX10_read_11 (by decide) ?_
  refine v_putI (pc := 12) (q := 32) zk10 ly_0 rfl tw_1058 rfl rfl rfl dX10_read_12 (fun M3 => ?_)
  refine v_aload_n (pc := 15) dX10_read_15 rfl ?_
  refine v_iconst (pc := 16) 0 dX10_read_16 (by decide) ?_
  refine v_putI (pc := 17) (q := 38) zk10 ly_0 rfl tw_1064 rfl rfl rfl dX10_read_17 (fun M4 => ?_)
  exact v_sub (wMd_read_20 l G FU  M4) rfl
theorem cMd_read (l : Launch) (G : zG)  (M : zM) : zC eI l G zLY zRY 9 yX10_read cX10_read 2 (some .int) [.ref 0] M (fMd_read  M) := zC.of (by decide) (Nat.le_of_ble_eq_true rfl) (v_sub (wMd_read l G  M) rfl)
theorem dX10_fault_0 : decode cX10_fault 0 = .ok (.aload_n 0, 1) := by decide +kernel
theorem dX10_fault_1 : decode cX10_fault 1 = .ok (.getfield 86, 3) := by decide +kernel
theorem dX10_fault_4 : decode cX10_fault 4 = .ok (.ireturn, 1) := by decide +kernel
theorem wMd_fault (l : Launch) (G : zG)  (M : zM) : zV eI l G zLY zRY 1 yX10_fault cX10_fault 1 (some .int) 0 [(0, .ref 0)] [] M (fMd_fault  M) := by
  rw [fMd_fault]
  refine v_aload_n (pc := 0) dX10_fault_0 rfl ?_
  refine v_getI (pc := 1) (q := 32) zk10 ly_0 rfl tw_1058 dX10_fault_1 ?_
  exact v_iret (pc := 4) dX10_fault_4
theorem cMd_fault (l : Launch) (G : zG)  (M : zM) : zC eI l G zLY zRY 1 yX10_fault cX10_fault 1 (some .int) [.ref 0] M (fMd_fault  M) := zC.of (by decide) (Nat.le_of_ble_eq_true rfl) (v_sub (wMd_fault l G  M) rfl)
theorem dX10_said_0 : decode cX10_said 0 = .ok (.iload_n 1, 1) := by decide +kernel
theorem dX10_said_1 : decode cX10_said 1 = .ok (.i2l, 1) := by decide +kernel
theorem dX10_said_2 : decode cX10_said 2 = .ok (.lconst 0, 1) := by decide +kernel
theorem dX10_said_3 : decode cX10_said 3 = .ok (.aload_n 0, 1) := by decide +kernel
theorem dX10_said_4 : decode cX10_said 4 = .ok (.getfield 177, 3) := by decide +kernel
theorem dX10_said_7 : decode cX10_said 7 = .ok (.iconst 1, 1) := by decide +kernel
theorem dX10_said_8 : decode cX10_said 8 = .ok (.isub, 1) := by decide +kernel
theorem dX10_said_9 : decode cX10_said 9 = .ok (.i2l, 1) := by decide +kernel
theorem dX10_said_10 : decode cX10_said 10 = .ok (.invokestatic 102, 3) := by decide +kernel
theorem dX10_said_13 : decode cX10_said 13 = .ok (.ifCond .eq 12, 3) := by decide +kernel
theorem dX10_said_16 : decode cX10_said 16 = .ok (.aload_n 0, 1) := by decide +kernel
theorem dX10_said_17 : decode cX10_said 17 = .ok (.getfield 90, 3) := by decide +kernel
theorem dX10_said_20 : decode cX10_said 20 = .ok (.iload_n 1, 1) := by decide +kernel
theorem dX10_said_21 : decode cX10_said 21 = .ok (.iaload, 1) := by decide +kernel
theorem dX10_said_22 : decode cX10_said 22 = .ok (.goto 6, 3) := by decide +kernel
theorem dX10_said_25 : decode cX10_said 25 = .ok (.sipush (-1001), 3) := by decide +kernel
theorem dX10_said_28 : decode cX10_said 28 = .ok (.ireturn, 1) := by decide +kernel
theorem wMd_said (l : Launch) (G : zG) (v1 : Int32) (M : zM) : zV eI l G zLY zRY 2 yX10_said cX10_said 2 (some .int) 0 [(0, .ref 0), (1, .int v1)] [] M (fMd_said v1 M) := by
  rw [fMd_said]
  refine v_iload_n (pc := 0) dX10_said_0 rfl ?_
  refine v_i2l (pc := 1) dX10_said_1 ?_
  refine v_lconst (pc := 2) 0 dX10_said_2 (by decide) ?_
  refine v_aload_n (pc := 3) dX10_said_3 rfl ?_
  refine v_getI (pc := 4) (q := 35) zk10 ly_0 rfl tw_1061 dX10_said_4 ?_
  refine v_iconst (pc := 7) 1 dX10_said_7 (by decide) ?_
  refine v_isub (pc := 8) dX10_said_8 ?_
  refine v_i2l (pc := 9) dX10_said_9 ?_
  refine v_callS (pc := 10) (As := [.long v1.toInt64, .long 0, .long (((M 0 35) - 1).toInt64)]) (cMd_in l G v1.toInt64 0 (((M 0 35) - 1).toInt64) M) zc_X10_in tw_1153 (by decide) (Nat.le_of_ble_eq_true rfl) dX10_said_10 (fun r2 M1 => ?_)
  refine v_if_eq (pc := 13) 25 dX10_said_13 (by decide) ?_ ?_
  · refine v_sipush (pc := 25) (-1001) dX10_said_25 (by decide) ?_
    exact v_iret (pc := 28) dX10_said_28
  · refine v_aload_n (pc := 16) dX10_said_16 rfl ?_
    refine v_getR (pc := 17) (q := 36) zk10 ly_0 rfl ry_0_36 tw_1062 dX10_said_17 ?_
    refine v_iload_n (pc := 20) dX10_said_20 rfl ?_
    refine v_iald (pc := 21) ly_26 dX10_said_21 (fun x3 => ?_)
    refine v_goto (pc := 22) 28 dX10_said_22 (by decide) ?_
    exact v_iret (pc := 28) dX10_said_28
theorem cMd_said (l : Launch) (G : zG) (v1 : Int32) (M : zM) : zC eI l G zLY zRY 2 yX10_said cX10_said 2 (some .int) [.ref 0, .int v1] M (fMd_said v1 M) := zC.of (by decide) (Nat.le_of_ble_eq_true rfl) (v_sub (wMd_said l G v1 M) rfl)
