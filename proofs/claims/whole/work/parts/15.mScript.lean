theorem dX6_append_0 : decode cX6_append 0 = .ok (.iload_n 1, 1) := by decide +kernel
theorem dX6_append_1 : decode cX6_append 1 = .ok (.iconst 1, 1) := by decide +kernel
theorem dX6_append_2 : decode cX6_append 2 = .ok (.isub, 1) := by decide +kernel
theorem dX6_append_3 : decode cX6_append 3 = .ok (.istore 4, 2) := by decide +kernel
theorem dX6_append_5 : decode cX6_append 5 = .ok (.iload 4, 2) := by decide +kernel
theorem dX6_append_7 : decode cX6_append 7 = .ok (.ifCond .lt 47, 3) := by decide +kernel
theorem dX6_append_10 : decode cX6_append 10 = .ok (.aload_n 0, 1) := by decide +kernel
theorem dX6_append_11 : decode cX6_append 11 = .ok (.getfield 15, 3) := by decide +kernel
theorem dX6_append_14 : decode cX6_append 14 = .ok (.sipush 200, 3) := by decide +kernel
theorem dX6_append_17 : decode cX6_append 17 = .ok (.if_icmp .ge 37, 3) := by decide +kernel
theorem dX6_append_20 : decode cX6_append 20 = .ok (.aload_n 0, 1) := by decide +kernel
theorem dX6_append_21 : decode cX6_append 21 = .ok (.getfield 9, 3) := by decide +kernel
theorem dX6_append_24 : decode cX6_append 24 = .ok (.aload_n 0, 1) := by decide +kernel
theorem dX6_append_25 : decode cX6_append 25 = .ok (.getfield 15, 3) := by decide +kernel
theorem dX6_append_28 : decode cX6_append 28 = .ok (.lload_n 2, 1) := by decide +kernel
theorem dX6_append_29 : decode cX6_append 29 = .ok (.bipush 8, 2) := by decide +kernel
theorem dX6_append_31 : decode cX6_append 31 = .ok (.iload 4, 2) := by decide +kernel
theorem dX6_append_33 : decode cX6_append 33 = .ok (.imul, 1) := by decide +kernel
theorem dX6_append_34 : decode cX6_append 34 = .ok (.lshr, 1) := by decide +kernel
theorem dX6_append_35 : decode cX6_append 35 = .ok (.l2i, 1) := by decide +kernel
theorem dX6_append_36 : decode cX6_append 36 = .ok (.i2b, 1) := by decide +kernel
theorem dX6_append_37 : decode cX6_append 37 = .ok (.bastore, 1) := by decide +kernel
theorem dX6_append_38 : decode cX6_append 38 = .ok (.aload_n 0, 1) := by decide +kernel
theorem dX6_append_39 : decode cX6_append 39 = .ok (.dup, 1) := by decide +kernel
theorem dX6_append_40 : decode cX6_append 40 = .ok (.getfield 15, 3) := by decide +kernel
theorem dX6_append_43 : decode cX6_append 43 = .ok (.iconst 1, 1) := by decide +kernel
theorem dX6_append_44 : decode cX6_append 44 = .ok (.iadd, 1) := by decide +kernel
theorem dX6_append_45 : decode cX6_append 45 = .ok (.putfield 15, 3) := by decide +kernel
theorem dX6_append_48 : decode cX6_append 48 = .ok (.iinc 4 (-1), 3) := by decide +kernel
theorem dX6_append_51 : decode cX6_append 51 = .ok (.goto (-46), 3) := by decide +kernel
theorem dX6_append_54 : decode cX6_append 54 = .ok (.aload_n 0, 1) := by decide +kernel
theorem dX6_append_55 : decode cX6_append 55 = .ok (.getfield 15, 3) := by decide +kernel
theorem dX6_append_58 : decode cX6_append 58 = .ok (.ireturn, 1) := by decide +kernel
theorem wScript_append_5 (l : Launch) (G : zG) : ∀ (fuel : Nat) (j2 : Int64) (v4 : Int32) (M : zM), zV eI l G zLX zRX 1 yX6_append cX6_append 5 (some .int) 5 [(0, .ref 56), (2, .long j2), (4, .int v4)] [] M (fScript_append_5 fuel j2 v4 M) := by
  intro fuel
  induction fuel with
  | zero => intro j2 v4 M; exact v_none
  | succ fuel ih =>
    intro j2 v4 M
    rw [fScript_append_5]
    refine v_iload (pc := 5) dX6_append_5 rfl ?_
    refine v_if_lt (pc := 7) 54 dX6_append_7 (by decide) ?_ ?_
    · refine v_aload_n (pc := 54) dX6_append_54 rfl ?_
      refine v_getI (pc := 55) (q := 2) zk6 lx_56 rfl tw_383 dX6_append_55 ?_
      exact v_iret (pc := 58) dX6_append_58
    · refine v_aload_n (pc := 10) dX6_append_10 rfl ?_
      refine v_getI (pc := 11) (q := 2) zk6 lx_56 rfl tw_383 dX6_append_11 ?_
      refine v_sipush (pc := 14) 200 dX6_append_14 (by decide) ?_
      refine v_icmp_ge (pc := 17) 54 dX6_append_17 (by decide) ?_ ?_
      · refine v_aload_n (pc := 54) dX6_append_54 rfl ?_
        refine v_getI (pc := 55) (q := 2) zk6 lx_56 rfl tw_383 dX6_append_55 ?_
        exact v_iret (pc := 58) dX6_append_58
      · refine v_aload_n (pc := 20) dX6_append_20 rfl ?_
        refine v_getR (pc := 21) (q := 1) zk6 lx_56 rfl rx_56_1 tw_382 dX6_append_21 ?_
        refine v_aload_n (pc := 24) dX6_append_24 rfl ?_
        refine v_getI (pc := 25) (q := 2) zk6 lx_56 rfl tw_383 dX6_append_25 ?_
        refine v_lload_n (pc := 28) dX6_append_28 rfl ?_
        refine v_bipush (pc := 29) 8 dX6_append_29 (by decide) ?_
        refine v_iload (pc := 31) dX6_append_31 rfl ?_
        refine v_imul (pc := 33) dX6_append_33 ?_
        refine v_lshr (pc := 34) dX6_append_34 ?_
        refine v_l2i (pc := 35) dX6_append_35 ?_
        refine v_i2b (pc := 36) dX6_append_36 ?_
        refine v_bast (pc := 37) lx_57 dX6_append_37 (fun M1 => ?_)
        refine v_aload_n (pc := 38) dX6_append_38 rfl ?_
        refine v_dup (pc := 39) dX6_append_39 rfl ?_
        refine v_getI (pc := 40) (q := 2) zk6 lx_56 rfl tw_383 dX6_append_40 ?_
        refine v_iconst (pc := 43) 1 dX6_append_43 (by decide) ?_
        refine v_iadd (pc := 44) dX6_append_44 ?_
        refine v_putI (pc := 45) (q := 2) zk6 lx_56 rfl tw_383 rfl rfl rfl dX6_append_45 (fun M2 => ?_)
        refine v_iinc (pc := 48) (-1) dX6_append_48 rfl (by decide) (by decide) ?_
        refine v_goto (pc := 51) 5 dX6_append_51 (by decide) ?_
        exact v_sub (ih j2 (v4 + (-1)) M2) rfl
theorem wScript_append (l : Launch) (G : zG) (v1 : Int32) (j2 : Int64) (M : zM) : zV eI l G zLX zRX 1 yX6_append cX6_append 5 (some .int) 0 [(0, .ref 56), (1, .int v1), (2, .long j2)] [] M (fScript_append v1 j2 M) := by
  rw [fScript_append]
  refine v_iload_n (pc := 0) dX6_append_0 rfl ?_
  refine v_iconst (pc := 1) 1 dX6_append_1 (by decide) ?_
  refine v_isub (pc := 2) dX6_append_2 ?_
  refine v_istoreL (pc := 3) dX6_append_3 (by decide) (fun u4_3 => ?_)
  exact v_sub (wScript_append_5 l G FU j2 u4_3 M) rfl
theorem cScript_append (l : Launch) (G : zG) (v1 : Int32) (j2 : Int64) (M : zM) : zC eI l G zLX zRX 1 yX6_append cX6_append 5 (some .int) [.ref 56, .int v1, .long j2] M (fScript_append v1 j2 M) := zC.of (by decide) (Nat.le_of_ble_eq_true rfl) (v_sub (wScript_append l G v1 j2 M) rfl)
theorem dX6_skipBlanks_0 : decode cX6_skipBlanks 0 = .ok (.aload_n 0, 1) := by decide +kernel
theorem dX6_skipBlanks_1 : decode cX6_skipBlanks 1 = .ok (.getfield 25, 3) := by decide +kernel
theorem dX6_skipBlanks_4 : decode cX6_skipBlanks 4 = .ok (.aload_n 0, 1) := by decide +kernel
theorem dX6_skipBlanks_5 : decode cX6_skipBlanks 5 = .ok (.getfield 15, 3) := by decide +kernel
theorem dX6_skipBlanks_8 : decode cX6_skipBlanks 8 = .ok (.if_icmp .ge 30, 3) := by decide +kernel
theorem dX6_skipBlanks_11 : decode cX6_skipBlanks 11 = .ok (.aload_n 0, 1) := by decide +kernel
theorem dX6_skipBlanks_12 : decode cX6_skipBlanks 12 = .ok (.getfield 9, 3) := by decide +kernel
theorem dX6_skipBlanks_15 : decode cX6_skipBlanks 15 = .ok (.aload_n 0, 1) := by decide +kernel
theorem dX6_skipBlanks_16 : decode cX6_skipBlanks 16 = .ok (.getfield 25, 3) := by decide +kernel
theorem dX6_skipBlanks_19 : decode cX6_skipBlanks 19 = .ok (.baload, 1) := by decide +kernel
theorem dX6_skipBlanks_20 : decode cX6_skipBlanks 20 = .ok (.bipush 32, 2) := by decide +kernel
theorem dX6_skipBlanks_22 : decode cX6_skipBlanks 22 = .ok (.if_icmp .ne 16, 3) := by decide +kernel
theorem dX6_skipBlanks_25 : decode cX6_skipBlanks 25 = .ok (.aload_n 0, 1) := by decide +kernel
theorem dX6_skipBlanks_26 : decode cX6_skipBlanks 26 = .ok (.dup, 1) := by decide +kernel
theorem dX6_skipBlanks_27 : decode cX6_skipBlanks 27 = .ok (.getfield 25, 3) := by decide +kernel
theorem dX6_skipBlanks_30 : decode cX6_skipBlanks 30 = .ok (.iconst 1, 1) := by decide +kernel
theorem dX6_skipBlanks_31 : decode cX6_skipBlanks 31 = .ok (.iadd, 1) := by decide +kernel
theorem dX6_skipBlanks_32 : decode cX6_skipBlanks 32 = .ok (.putfield 25, 3) := by decide +kernel
theorem dX6_skipBlanks_35 : decode cX6_skipBlanks 35 = .ok (.goto (-35), 3) := by decide +kernel
theorem dX6_skipBlanks_38 : decode cX6_skipBlanks 38 = .ok (.return_, 1) := by decide +kernel
theorem wScript_skipBlanks_0 (l : Launch) (G : zG) : ∀ (fuel : Nat)  (M : zM), zV eV l G zLX zRX 1 yX6_skipBlanks cX6_skipBlanks 1 none 0 [(0, .ref 56)] [] M (fScript_skipBlanks_0 fuel  M) := by
  intro fuel
  induction fuel with
  | zero => intro  M; exact v_none
  | succ fuel ih =>
    intro  M
    rw [fScript_skipBlanks_0]
    refine v_aload_n (pc := 0) dX6_skipBlanks_0 rfl ?_
    refine v_getI (pc := 1) (q := 5) zk6 lx_56 rfl tw_388 dX6_skipBlanks_1 ?_
    refine v_aload_n (pc := 4) dX6_skipBlanks_4 rfl ?_
    refine v_getI (pc := 5) (q := 2) zk6 lx_56 rfl tw_383 dX6_skipBlanks_5 ?_
    refine v_icmp_ge (pc := 8) 38 dX6_skipBlanks_8 (by decide) ?_ ?_
    · exact v_vret (pc := 38) dX6_skipBlanks_38
    · refine v_aload_n (pc := 11) dX6_skipBlanks_11 rfl ?_
      refine v_getR (pc := 12) (q := 1) zk6 lx_56 rfl rx_56_1 tw_382 dX6_skipBlanks_12 ?_
      refine v_aload_n (pc := 15) dX6_skipBlanks_15 rfl ?_
      refine v_getI (pc := 16) (q := 5) zk6 lx_56 rfl tw_388 dX6_skipBlanks_16 ?_
      refine v_bald (pc := 19) lx_57 dX6_skipBlanks_19 (fun x1 => ?_)
      refine v_bipush (pc := 20) 32 dX6_skipBlanks_20 (by decide) ?_
      refine v_icmp_ne (pc := 22) 38 dX6_skipBlanks_22 (by decide) ?_ ?_
      · exact v_vret (pc := 38) dX6_skipBlanks_38
      · refine v_aload_n (pc := 25) dX6_skipBlanks_25 rfl ?_
        refine v_dup (pc := 26) dX6_skipBlanks_26 rfl ?_
        refine v_getI (pc := 27) (q := 5) zk6 lx_56 rfl tw_388 dX6_skipBlanks_27 ?_
        refine v_iconst (pc := 30) 1 dX6_skipBlanks_30 (by decide) ?_
        refine v_iadd (pc := 31) dX6_skipBlanks_31 ?_
        refine v_putI (pc := 32) (q := 5) zk6 lx_56 rfl tw_388 rfl rfl rfl dX6_skipBlanks_32 (fun M2 => ?_)
        refine v_goto (pc := 35) 0 dX6_skipBlanks_35 (by decide) ?_
        exact v_sub (ih  M2) rfl
theorem wScript_skipBlanks (l : Launch) (G : zG)  (M : zM) : zV eV l G zLX zRX 1 yX6_skipBlanks cX6_skipBlanks 1 none 0 [(0, .ref 56)] [] M (fScript_skipBlanks  M) := wScript_skipBlanks_0 l G FU  M
theorem cScript_skipBlanks (l : Launch) (G : zG)  (M : zM) : zC eV l G zLX zRX 1 yX6_skipBlanks cX6_skipBlanks 1 none [.ref 56] M (fScript_skipBlanks  M) := zC.of (by decide) (Nat.le_of_ble_eq_true rfl) (v_sub (wScript_skipBlanks l G  M) rfl)
theorem dX6_isLetter_0 : decode cX6_isLetter 0 = .ok (.iload_n 1, 1) := by decide +kernel
theorem dX6_isLetter_1 : decode cX6_isLetter 1 = .ok (.aload_n 0, 1) := by decide +kernel
theorem dX6_isLetter_2 : decode cX6_isLetter 2 = .ok (.getfield 15, 3) := by decide +kernel
theorem dX6_isLetter_5 : decode cX6_isLetter 5 = .ok (.if_icmp .ge 29, 3) := by decide +kernel
theorem dX6_isLetter_8 : decode cX6_isLetter 8 = .ok (.aload_n 0, 1) := by decide +kernel
theorem dX6_isLetter_9 : decode cX6_isLetter 9 = .ok (.getfield 9, 3) := by decide +kernel
theorem dX6_isLetter_12 : decode cX6_isLetter 12 = .ok (.iload_n 1, 1) := by decide +kernel
theorem dX6_isLetter_13 : decode cX6_isLetter 13 = .ok (.baload, 1) := by decide +kernel
theorem dX6_isLetter_14 : decode cX6_isLetter 14 = .ok (.bipush 97, 2) := by decide +kernel
theorem dX6_isLetter_16 : decode cX6_isLetter 16 = .ok (.if_icmp .lt 18, 3) := by decide +kernel
theorem dX6_isLetter_19 : decode cX6_isLetter 19 = .ok (.aload_n 0, 1) := by decide +kernel
theorem dX6_isLetter_20 : decode cX6_isLetter 20 = .ok (.getfield 9, 3) := by decide +kernel
theorem dX6_isLetter_23 : decode cX6_isLetter 23 = .ok (.iload_n 1, 1) := by decide +kernel
theorem dX6_isLetter_24 : decode cX6_isLetter 24 = .ok (.baload, 1) := by decide +kernel
theorem dX6_isLetter_25 : decode cX6_isLetter 25 = .ok (.bipush 122, 2) := by decide +kernel
theorem dX6_isLetter_27 : decode cX6_isLetter 27 = .ok (.if_icmp .gt 7, 3) := by decide +kernel
theorem dX6_isLetter_30 : decode cX6_isLetter 30 = .ok (.iconst 1, 1) := by decide +kernel
theorem dX6_isLetter_31 : decode cX6_isLetter 31 = .ok (.goto 4, 3) := by decide +kernel
theorem dX6_isLetter_34 : decode cX6_isLetter 34 = .ok (.iconst 0, 1) := by decide +kernel
theorem dX6_isLetter_35 : decode cX6_isLetter 35 = .ok (.ireturn, 1) := by decide +kernel
theorem wScript_isLetter (l : Launch) (G : zG) (v1 : Int32) (M : zM) : zV eI l G zLX zRX 1 yX6_isLetter cX6_isLetter 2 (some .boolean) 0 [(0, .ref 56), (1, .int v1)] [] M (fScript_isLetter v1 M) := by
  rw [fScript_isLetter]
  refine v_iload_n (pc := 0) dX6_isLetter_0 rfl ?_
  refine v_aload_n (pc := 1) dX6_isLetter_1 rfl ?_
  refine v_getI (pc := 2) (q := 2) zk6 lx_56 rfl tw_383 dX6_isLetter_2 ?_
  refine v_icmp_ge (pc := 5) 34 dX6_isLetter_5 (by decide) ?_ ?_
  · refine v_iconst (pc := 34) 0 dX6_isLetter_34 (by decide) ?_
    exact v_zret (pc := 35) dX6_isLetter_35
  · refine v_aload_n (pc := 8) dX6_isLetter_8 rfl ?_
    refine v_getR (pc := 9) (q := 1) zk6 lx_56 rfl rx_56_1 tw_382 dX6_isLetter_9 ?_
    refine v_iload_n (pc := 12) dX6_isLetter_12 rfl ?_
    refine v_bald (pc := 13) lx_57 dX6_isLetter_13 (fun x1 => ?_)
    refine v_bipush (pc := 14) 97 dX6_isLetter_14 (by decide) ?_
    refine v_icmp_lt (pc := 16) 34 dX6_isLetter_16 (by decide) ?_ ?_
    · refine v_iconst (pc := 34) 0 dX6_isLetter_34 (by decide) ?_
      exact v_zret (pc := 35) dX6_isLetter_35
    · refine v_aload_n (pc := 19) dX6_isLetter_19 rfl ?_
      refine v_getR (pc := 20) (q := 1) zk6 lx_56 rfl rx_56_1 tw_382 dX6_isLetter_20 ?_
      refine v_iload_n (pc := 23) dX6_isLetter_23 rfl ?_
      refine v_bald (pc := 24) lx_57 dX6_isLetter_24 (fun x2 => ?_)
      refine v_bipush (pc := 25) 122 dX6_isLetter_25 (by decide) ?_
      refine v_icmp_gt (pc := 27) 34 dX6_isLetter_27 (by decide) ?_ ?_
      · refine v_iconst (pc := 34) 0 dX6_isLetter_34 (by decide) ?_
        exact v_zret (pc := 35) dX6_isLetter_35
      · refine v_iconst (pc := 30) 1 dX6_isLetter_30 (by decide) ?_
        refine v_goto (pc := 31) 35 dX6_isLetter_31 (by decide) ?_
        exact v_zret (pc := 35) dX6_isLetter_35
theorem cScript_isLetter (l : Launch) (G : zG) (v1 : Int32) (M : zM) : zC eI l G zLX zRX 1 yX6_isLetter cX6_isLetter 2 (some .boolean) [.ref 56, .int v1] M (fScript_isLetter v1 M) := zC.of (by decide) (Nat.le_of_ble_eq_true rfl) (v_sub (wScript_isLetter l G v1 M) rfl)
theorem dX6_wordFor_0 : decode cX6_wordFor 0 = .ok (.iload_n 0, 1) := by decide +kernel
theorem dX6_wordFor_1 : decode cX6_wordFor 1 = .ok (.tableswitch 43 0 3 #[31, 34, 37, 40], 31) := by decide +kernel
theorem dX6_wordFor_32 : decode cX6_wordFor 32 = .ok (.ldc 84, 2) := by decide +kernel
theorem dX6_wordFor_34 : decode cX6_wordFor 34 = .ok (.areturn, 1) := by decide +kernel
theorem dX6_wordFor_35 : decode cX6_wordFor 35 = .ok (.ldc 86, 2) := by decide +kernel
theorem dX6_wordFor_37 : decode cX6_wordFor 37 = .ok (.areturn, 1) := by decide +kernel
theorem dX6_wordFor_38 : decode cX6_wordFor 38 = .ok (.ldc 88, 2) := by decide +kernel
theorem dX6_wordFor_40 : decode cX6_wordFor 40 = .ok (.areturn, 1) := by decide +kernel
theorem dX6_wordFor_41 : decode cX6_wordFor 41 = .ok (.ldc 90, 2) := by decide +kernel
theorem dX6_wordFor_43 : decode cX6_wordFor 43 = .ok (.areturn, 1) := by decide +kernel
theorem dX6_wordFor_44 : decode cX6_wordFor 44 = .ok (.ldc 92, 2) := by decide +kernel
theorem dX6_wordFor_46 : decode cX6_wordFor 46 = .ok (.areturn, 1) := by decide +kernel
theorem wScript_wordFor (l : Launch) (G : zG) (v0 : Int32) (M : zM) : zV eR l G zLX zRX 1 yX6_wordFor cX6_wordFor 1 (some (.object "java/lang/String")) 0 [(0, .int v0)] [] M (fScript_wordFor v0 M) := by
  rw [fScript_wordFor]
  refine v_iload_n (pc := 0) dX6_wordFor_0 rfl ?_
  refine v_tsw (pc := 1) (dt := 44) [32, 35, 38, 41] [_, _, _, _] dX6_wordFor_1 rfl (by decide) (by decide) (by decide) (by decide) ⟨?_, ?_, ?_, ?_, trivial⟩ ?_
  · refine v_ldcS (pc := 32) (i := 0) (by decide) dX6_wordFor_32 ?_
    exact v_aret (pc := 34) dX6_wordFor_34
  · refine v_ldcS (pc := 35) (i := 1) (by decide) dX6_wordFor_35 ?_
    exact v_aret (pc := 37) dX6_wordFor_37
  · refine v_ldcS (pc := 38) (i := 2) (by decide) dX6_wordFor_38 ?_
    exact v_aret (pc := 40) dX6_wordFor_40
  · refine v_ldcS (pc := 41) (i := 3) (by decide) dX6_wordFor_41 ?_
    exact v_aret (pc := 43) dX6_wordFor_43
  · refine v_ldcS (pc := 44) (i := 4) (by decide) dX6_wordFor_44 ?_
    exact v_aret (pc := 46) dX6_wordFor_46
theorem cScript_wordFor (l : Launch) (G : zG) (v0 : Int32) (M : zM) : zC eR l G zLX zRX 1 yX6_wordFor cX6_wordFor 1 (some (.object "java/lang/String")) [.int v0] M (fScript_wordFor v0 M) := zC.of (by decide) (Nat.le_of_ble_eq_true rfl) (v_sub (wScript_wordFor l G v0 M) rfl)
theorem dX6_isWord_0 : decode cX6_isWord 0 = .ok (.aload_n 0, 1) := by decide +kernel
theorem dX6_isWord_1 : decode cX6_isWord 1 = .ok (.getfield 25, 3) := by decide +kernel
theorem dX6_isWord_4 : decode cX6_isWord 4 = .ok (.iload_n 2, 1) := by decide +kernel
theorem dX6_isWord_5 : decode cX6_isWord 5 = .ok (.isub, 1) := by decide +kernel
theorem dX6_isWord_6 : decode cX6_isWord 6 = .ok (.aload_n 1, 1) := by decide +kernel
theorem dX6_isWord_7 : decode cX6_isWord 7 = .ok (.invokevirtual 94, 3) := by decide +kernel
theorem dX6_isWord_10 : decode cX6_isWord 10 = .ok (.if_icmp .eq 5, 3) := by decide +kernel
theorem dX6_isWord_13 : decode cX6_isWord 13 = .ok (.iconst 0, 1) := by decide +kernel
theorem dX6_isWord_14 : decode cX6_isWord 14 = .ok (.ireturn, 1) := by decide +kernel
theorem dX6_isWord_15 : decode cX6_isWord 15 = .ok (.iconst 0, 1) := by decide +kernel
theorem dX6_isWord_16 : decode cX6_isWord 16 = .ok (.istore_n 3, 1) := by decide +kernel
theorem dX6_isWord_17 : decode cX6_isWord 17 = .ok (.iload_n 3, 1) := by decide +kernel
theorem dX6_isWord_18 : decode cX6_isWord 18 = .ok (.aload_n 1, 1) := by decide +kernel
theorem dX6_isWord_19 : decode cX6_isWord 19 = .ok (.invokevirtual 94, 3) := by decide +kernel
theorem dX6_isWord_22 : decode cX6_isWord 22 = .ok (.if_icmp .ge 27, 3) := by decide +kernel
theorem dX6_isWord_25 : decode cX6_isWord 25 = .ok (.aload_n 0, 1) := by decide +kernel
theorem dX6_isWord_26 : decode cX6_isWord 26 = .ok (.getfield 9, 3) := by decide +kernel
theorem dX6_isWord_29 : decode cX6_isWord 29 = .ok (.iload_n 2, 1) := by decide +kernel
theorem dX6_isWord_30 : decode cX6_isWord 30 = .ok (.iload_n 3, 1) := by decide +kernel
theorem dX6_isWord_31 : decode cX6_isWord 31 = .ok (.iadd, 1) := by decide +kernel
theorem dX6_isWord_32 : decode cX6_isWord 32 = .ok (.baload, 1) := by decide +kernel
theorem dX6_isWord_33 : decode cX6_isWord 33 = .ok (.aload_n 1, 1) := by decide +kernel
theorem dX6_isWord_34 : decode cX6_isWord 34 = .ok (.iload_n 3, 1) := by decide +kernel
theorem dX6_isWord_35 : decode cX6_isWord 35 = .ok (.invokevirtual 98, 3) := by decide +kernel
theorem dX6_isWord_38 : decode cX6_isWord 38 = .ok (.if_icmp .eq 5, 3) := by decide +kernel
theorem dX6_isWord_41 : decode cX6_isWord 41 = .ok (.iconst 0, 1) := by decide +kernel
theorem dX6_isWord_42 : decode cX6_isWord 42 = .ok (.ireturn, 1) := by decide +kernel
theorem dX6_isWord_43 : decode cX6_isWord 43 = .ok (.iinc 3 1, 3) := by decide +kernel
theorem dX6_isWord_46 : decode cX6_isWord 46 = .ok (.goto (-29), 3) := by decide +kernel
theorem dX6_isWord_49 : decode cX6_isWord 49 = .ok (.iconst 1, 1) := by decide +kernel
theorem dX6_isWord_50 : decode cX6_isWord 50 = .ok (.ireturn, 1) := by decide +kernel
theorem wScript_isWord_17 (l : Launch) (G : zG) : ∀ (fuel : Nat) (c1 : Nat) (hc1 : zIsS c1) (v2 : Int32) (v3 : Int32) (M : zM), zV eI l G zLX zRX 6 yX6_isWord cX6_isWord 4 (some .boolean) 17 [(0, .ref 56), (1, .ref c1), (2, .int v2), (3, .int v3)] [] M (fScript_isWord_17 fuel c1 v2 v3 M) := by
  intro fuel
  induction fuel with
  | zero => intro c1 hc1 v2 v3 M; exact v_none
  | succ fuel ih =>
    intro c1 hc1 v2 v3 M
    rw [fScript_isWord_17]
    refine v_iload_n (pc := 17) dX6_isWord_17 rfl ?_
    refine v_aload_n (pc := 18) dX6_isWord_18 rfl ?_
    refine v_callT (pc := 19) (As := []) (cJ0_length l G c1 hc1 M) zc_J0_length_8abf5 rfl hc1 tw_938 (by decide) (Nat.le_of_ble_eq_true rfl) dX6_isWord_19 (fun r2 M1 => ?_)
    refine v_icmp_ge (pc := 22) 49 dX6_isWord_22 (by decide) ?_ ?_
    · refine v_iconst (pc := 49) 1 dX6_isWord_49 (by decide) ?_
      exact v_zret (pc := 50) dX6_isWord_50
    · refine v_aload_n (pc := 25) dX6_isWord_25 rfl ?_
      refine v_getR (pc := 26) (q := 1) zk6 lx_56 rfl rx_56_1 tw_382 dX6_isWord_26 ?_
      refine v_iload_n (pc := 29) dX6_isWord_29 rfl ?_
      refine v_iload_n (pc := 30) dX6_isWord_30 rfl ?_
      refine v_iadd (pc := 31) dX6_isWord_31 ?_
      refine v_bald (pc := 32) lx_57 dX6_isWord_32 (fun x3 => ?_)
      refine v_aload_n (pc := 33) dX6_isWord_33 rfl ?_
      refine v_iload_n (pc := 34) dX6_isWord_34 rfl ?_
      refine v_callT (pc := 35) (As := [.int v3]) (cJ0_charAt l G c1 hc1 v3 M1) zc_J0_charAt_5068e rfl hc1 tw_948 (by decide) (Nat.le_of_ble_eq_true rfl) dX6_isWord_35 (fun r5 M4 => ?_)
      refine v_icmp_eq (pc := 38) 43 dX6_isWord_38 (by decide) ?_ ?_
      · refine v_iinc (pc := 43) 1 dX6_isWord_43 rfl (by decide) (by decide) ?_
        refine v_goto (pc := 46) 17 dX6_isWord_46 (by decide) ?_
        exact v_sub (ih c1 hc1 v2 (v3 + 1) M4) rfl
      · refine v_iconst (pc := 41) 0 dX6_isWord_41 (by decide) ?_
        exact v_zret (pc := 42) dX6_isWord_42
theorem wScript_isWord (l : Launch) (G : zG) (c1 : Nat) (hc1 : zIsS c1) (v2 : Int32) (M : zM) : zV eI l G zLX zRX 6 yX6_isWord cX6_isWord 4 (some .boolean) 0 [(0, .ref 56), (1, .ref c1), (2, .int v2)] [] M (fScript_isWord c1 v2 M) := by
  rw [fScript_isWord]
  refine v_aload_n (pc := 0) dX6_isWord_0 rfl ?_
  refine v_getI (pc := 1) (q := 5) zk6 lx_56 rfl tw_388 dX6_isWord_1 ?_
  refine v_iload_n (pc := 4) dX6_isWord_4 rfl ?_
  refine v_isub (pc := 5) dX6_isWord_5 ?_
  refine v_aload_n (pc := 6) dX6_isWord_6 rfl ?_
  refine v_callT (pc := 7) (As := []) (cJ0_length l G c1 hc1 M) zc_J0_length_8abf5 rfl hc1 tw_938 (by decide) (Nat.le_of_ble_eq_true rfl) dX6_isWord_7 (fun r2 M1 => ?_)
  refine v_icmp_eq (pc := 10) 15 dX6_isWord_10 (by decide) ?_ ?_
  · refine v_iconst (pc := 15) 0 dX6_isWord_15 (by decide) ?_
    refine v_istore_n (pc := 16) dX6_isWord_16 (by decide) ?_
    exact v_sub (wScript_isWord_17 l G FU c1 hc1 v2 0 M1) rfl
  · refine v_iconst (pc := 13) 0 dX6_isWord_13 (by decide) ?_
    exact v_zret (pc := 14) dX6_isWord_14
theorem cScript_isWord (l : Launch) (G : zG) (c1 : Nat) (hc1 : zIsS c1) (v2 : Int32) (M : zM) : zC eI l G zLX zRX 6 yX6_isWord cX6_isWord 4 (some .boolean) [.ref 56, .ref c1, .int v2] M (fScript_isWord c1 v2 M) := zC.of (by decide) (Nat.le_of_ble_eq_true rfl) (v_sub (wScript_isWord l G c1 hc1 v2 M) rfl)
theorem dX6_readWord_0 : decode cX6_readWord 0 = .ok (.aload_n 0, 1) := by decide +kernel
theorem dX6_readWord_1 : decode cX6_readWord 1 = .ok (.getfield 25, 3) := by decide +kernel
theorem dX6_readWord_4 : decode cX6_readWord 4 = .ok (.istore_n 1, 1) := by decide +kernel
theorem dX6_readWord_5 : decode cX6_readWord 5 = .ok (.aload_n 0, 1) := by decide +kernel
theorem dX6_readWord_6 : decode cX6_readWord 6 = .ok (.getfield 25, 3) := by decide +kernel
theorem dX6_readWord_9 : decode cX6_readWord 9 = .ok (.aload_n 0, 1) := by decide +kernel
theorem dX6_readWord_10 : decode cX6_readWord 10 = .ok (.getfield 15, 3) := by decide +kernel
theorem dX6_readWord_13 : decode cX6_readWord 13 = .ok (.if_icmp .ge 27, 3) := by decide +kernel
theorem dX6_readWord_16 : decode cX6_readWord 16 = .ok (.aload_n 0, 1) := by decide +kernel
theorem dX6_readWord_17 : decode cX6_readWord 17 = .ok (.aload_n 0, 1) := by decide +kernel
theorem dX6_readWord_18 : decode cX6_readWord 18 = .ok (.getfield 25, 3) := by decide +kernel
theorem dX6_readWord_21 : decode cX6_readWord 21 = .ok (.invokevirtual 72, 3) := by decide +kernel
theorem dX6_readWord_24 : decode cX6_readWord 24 = .ok (.ifCond .eq 16, 3) := by decide +kernel
theorem dX6_readWord_27 : decode cX6_readWord 27 = .ok (.aload_n 0, 1) := by decide +kernel
theorem dX6_readWord_28 : decode cX6_readWord 28 = .ok (.dup, 1) := by decide +kernel
theorem dX6_readWord_29 : decode cX6_readWord 29 = .ok (.getfield 25, 3) := by decide +kernel
theorem dX6_readWord_32 : decode cX6_readWord 32 = .ok (.iconst 1, 1) := by decide +kernel
theorem dX6_readWord_33 : decode cX6_readWord 33 = .ok (.iadd, 1) := by decide +kernel
theorem dX6_readWord_34 : decode cX6_readWord 34 = .ok (.putfield 25, 3) := by decide +kernel
theorem dX6_readWord_37 : decode cX6_readWord 37 = .ok (.goto (-32), 3) := by decide +kernel
theorem dX6_readWord_40 : decode cX6_readWord 40 = .ok (.iconst 0, 1) := by decide +kernel
theorem dX6_readWord_41 : decode cX6_readWord 41 = .ok (.istore_n 2, 1) := by decide +kernel
theorem dX6_readWord_42 : decode cX6_readWord 42 = .ok (.iload_n 2, 1) := by decide +kernel
theorem dX6_readWord_43 : decode cX6_readWord 43 = .ok (.iconst 4, 1) := by decide +kernel
theorem dX6_readWord_44 : decode cX6_readWord 44 = .ok (.if_icmp .gt 23, 3) := by decide +kernel
theorem dX6_readWord_47 : decode cX6_readWord 47 = .ok (.aload_n 0, 1) := by decide +kernel
theorem dX6_readWord_48 : decode cX6_readWord 48 = .ok (.iload_n 2, 1) := by decide +kernel
theorem dX6_readWord_49 : decode cX6_readWord 49 = .ok (.invokestatic 76, 3) := by decide +kernel
theorem dX6_readWord_52 : decode cX6_readWord 52 = .ok (.iload_n 1, 1) := by decide +kernel
theorem dX6_readWord_53 : decode cX6_readWord 53 = .ok (.invokevirtual 80, 3) := by decide +kernel
theorem dX6_readWord_56 : decode cX6_readWord 56 = .ok (.ifCond .eq 5, 3) := by decide +kernel
theorem dX6_readWord_59 : decode cX6_readWord 59 = .ok (.iload_n 2, 1) := by decide +kernel
theorem dX6_readWord_60 : decode cX6_readWord 60 = .ok (.ireturn, 1) := by decide +kernel
theorem dX6_readWord_61 : decode cX6_readWord 61 = .ok (.iinc 2 1, 3) := by decide +kernel
theorem dX6_readWord_64 : decode cX6_readWord 64 = .ok (.goto (-22), 3) := by decide +kernel
theorem dX6_readWord_67 : decode cX6_readWord 67 = .ok (.iconst (-1), 1) := by decide +kernel
theorem dX6_readWord_68 : decode cX6_readWord 68 = .ok (.ireturn, 1) := by decide +kernel
theorem wScript_readWord_42 (l : Launch) (G : zG) : ∀ (fuel : Nat) (v1 : Int32) (v2 : Int32) (M : zM), zV eI l G zLX zRX 7 yX6_readWord cX6_readWord 3 (some .int) 42 [(0, .ref 56), (1, .int v1), (2, .int v2)] [] M (fScript_readWord_42 fuel v1 v2 M) := by
  intro fuel
  induction fuel with
  | zero => intro v1 v2 M; exact v_none
  | succ fuel ih =>
    intro v1 v2 M
    rw [fScript_readWord_42]
    refine v_iload_n (pc := 42) dX6_readWord_42 rfl ?_
    refine v_iconst (pc := 43) 4 dX6_readWord_43 (by decide) ?_
    refine v_icmp_gt (pc := 44) 67 dX6_readWord_44 (by decide) ?_ ?_
    · refine v_iconst (pc := 67) (-1) dX6_readWord_67 (by decide) ?_
      exact v_iret (pc := 68) dX6_readWord_68
    · refine v_aload_n (pc := 47) dX6_readWord_47 rfl ?_
      refine v_iload_n (pc := 48) dX6_readWord_48 rfl ?_
      refine v_callS (pc := 49) (As := [.int v2]) (cScript_wordFor l G v2 M) zc_X6_wordFor tw_926 (by decide) (Nat.le_of_ble_eq_true rfl) dX6_readWord_49 (fun r2 M1 => ?_)
      refine v_ifP (fun hgr2 => ?_)
      have hr2 := zIsS_of hgr2
      refine v_iload_n (pc := 52) dX6_readWord_52 rfl ?_
      refine v_callV (pc := 53) (As := [.ref r2, .int v1]) (cScript_isWord l G r2 hr2 v1 M1) zc_X6_isWord zk6 rfl lx_56 tw_934 (by decide) (Nat.le_of_ble_eq_true rfl) dX6_readWord_53 (fun r4 M3 => ?_)
      refine v_if_eq (pc := 56) 61 dX6_readWord_56 (by decide) ?_ ?_
      · refine v_iinc (pc := 61) 1 dX6_readWord_61 rfl (by decide) (by decide) ?_
        refine v_goto (pc := 64) 42 dX6_readWord_64 (by decide) ?_
        exact v_sub (ih v1 (v2 + 1) M3) rfl
      · refine v_iload_n (pc := 59) dX6_readWord_59 rfl ?_
        exact v_iret (pc := 60) dX6_readWord_60
theorem wScript_readWord_5 (l : Launch) (G : zG) : ∀ (fuel : Nat) (v1 : Int32) (M : zM), zV eI l G zLX zRX 7 yX6_readWord cX6_readWord 3 (some .int) 5 [(0, .ref 56), (1, .int v1)] [] M (fScript_readWord_5 fuel v1 M) := by
  intro fuel
  induction fuel with
  | zero => intro v1 M; exact v_none
  | succ fuel ih =>
    intro v1 M
    rw [fScript_readWord_5]
    refine v_aload_n (pc := 5) dX6_readWord_5 rfl ?_
    refine v_getI (pc := 6) (q := 5) zk6 lx_56 rfl tw_388 dX6_readWord_6 ?_
    refine v_aload_n (pc := 9) dX6_readWord_9 rfl ?_
    refine v_getI (pc := 10) (q := 2) zk6 lx_56 rfl tw_383 dX6_readWord_10 ?_
    refine v_icmp_ge (pc := 13) 40 dX6_readWord_13 (by decide) ?_ ?_
    · refine v_iconst (pc := 40) 0 dX6_readWord_40 (by decide) ?_
      refine v_istore_n (pc := 41) dX6_readWord_41 (by decide) ?_
      exact v_sub (wScript_readWord_42 l G FU v1 0 M) rfl
    · refine v_aload_n (pc := 16) dX6_readWord_16 rfl ?_
      refine v_aload_n (pc := 17) dX6_readWord_17 rfl ?_
      refine v_getI (pc := 18) (q := 5) zk6 lx_56 rfl tw_388 dX6_readWord_18 ?_
      refine v_callV (pc := 21) (As := [.int (M 56 5)]) (cScript_isLetter l G (M 56 5) M) zc_X6_isLetter zk6 rfl lx_56 tw_922 (by decide) (Nat.le_of_ble_eq_true rfl) dX6_readWord_21 (fun r2 M1 => ?_)
      refine v_if_eq (pc := 24) 40 dX6_readWord_24 (by decide) ?_ ?_
      · refine v_iconst (pc := 40) 0 dX6_readWord_40 (by decide) ?_
        refine v_istore_n (pc := 41) dX6_readWord_41 (by decide) ?_
        exact v_sub (wScript_readWord_42 l G FU v1 0 M1) rfl
      · refine v_aload_n (pc := 27) dX6_readWord_27 rfl ?_
        refine v_dup (pc := 28) dX6_readWord_28 rfl ?_
        refine v_getI (pc := 29) (q := 5) zk6 lx_56 rfl tw_388 dX6_readWord_29 ?_
        refine v_iconst (pc := 32) 1 dX6_readWord_32 (by decide) ?_
        refine v_iadd (pc := 33) dX6_readWord_33 ?_
        refine v_putI (pc := 34) (q := 5) zk6 lx_56 rfl tw_388 rfl rfl rfl dX6_readWord_34 (fun M3 => ?_)
        refine v_goto (pc := 37) 5 dX6_readWord_37 (by decide) ?_
        exact v_sub (ih v1 M3) rfl
theorem wScript_readWord (l : Launch) (G : zG)  (M : zM) : zV eI l G zLX zRX 7 yX6_readWord cX6_readWord 3 (some .int) 0 [(0, .ref 56)] [] M (fScript_readWord  M) := by
  rw [fScript_readWord]
  refine v_aload_n (pc := 0) dX6_readWord_0 rfl ?_
  refine v_getI (pc := 1) (q := 5) zk6 lx_56 rfl tw_388 dX6_readWord_1 ?_
  refine v_istore_nL (pc := 4) dX6_readWord_4 (by decide) (fun u1_4 => ?_)
  exact v_sub (wScript_readWord_5 l G FU u1_4 M) rfl
theorem cScript_readWord (l : Launch) (G : zG)  (M : zM) : zC eI l G zLX zRX 7 yX6_readWord cX6_readWord 3 (some .int) [.ref 56] M (fScript_readWord  M) := zC.of (by decide) (Nat.le_of_ble_eq_true rfl) (v_sub (wScript_readWord l G  M) rfl)
theorem dX6_fail_0 : decode cX6_fail 0 = .ok (.aload_n 0, 1) := by decide +kernel
theorem dX6_fail_1 : decode cX6_fail 1 = .ok (.iload_n 1, 1) := by decide +kernel
theorem dX6_fail_2 : decode cX6_fail 2 = .ok (.putfield 22, 3) := by decide +kernel
theorem dX6_fail_5 : decode cX6_fail 5 = .ok (.aload_n 0, 1) := by decide +kernel
theorem dX6_fail_6 : decode cX6_fail 6 = .ok (.iload_n 2, 1) := by decide +kernel
theorem dX6_fail_7 : decode cX6_fail 7 = .ok (.putfield 19, 3) := by decide +kernel
theorem dX6_fail_10 : decode cX6_fail 10 = .ok (.return_, 1) := by decide +kernel
theorem wScript_fail (l : Launch) (G : zG) (v1 : Int32) (v2 : Int32) (M : zM) : zV eV l G zLX zRX 1 yX6_fail cX6_fail 3 none 0 [(0, .ref 56), (1, .int v1), (2, .int v2)] [] M (fScript_fail v1 v2 M) := by
  rw [fScript_fail]
  refine v_aload_n (pc := 0) dX6_fail_0 rfl ?_
  refine v_iload_n (pc := 1) dX6_fail_1 rfl ?_
  refine v_putI (pc := 2) (q := 4) zk6 lx_56 rfl tw_387 rfl rfl rfl dX6_fail_2 (fun M1 => ?_)
  refine v_aload_n (pc := 5) dX6_fail_5 rfl ?_
  refine v_iload_n (pc := 6) dX6_fail_6 rfl ?_
  refine v_putI (pc := 7) (q := 3) zk6 lx_56 rfl tw_385 rfl rfl rfl dX6_fail_7 (fun M2 => ?_)
  exact v_vret (pc := 10) dX6_fail_10
theorem cScript_fail (l : Launch) (G : zG) (v1 : Int32) (v2 : Int32) (M : zM) : zC eV l G zLX zRX 1 yX6_fail cX6_fail 3 none [.ref 56, .int v1, .int v2] M (fScript_fail v1 v2 M) := zC.of (by decide) (Nat.le_of_ble_eq_true rfl) (v_sub (wScript_fail l G v1 v2 M) rfl)
theorem dX6_isFigure_0 : decode cX6_isFigure 0 = .ok (.iload_n 1, 1) := by decide +kernel
theorem dX6_isFigure_1 : decode cX6_isFigure 1 = .ok (.aload_n 0, 1) := by decide +kernel
theorem dX6_isFigure_2 : decode cX6_isFigure 2 = .ok (.getfield 15, 3) := by decide +kernel
theorem dX6_isFigure_5 : decode cX6_isFigure 5 = .ok (.if_icmp .ge 29, 3) := by decide +kernel
theorem dX6_isFigure_8 : decode cX6_isFigure 8 = .ok (.aload_n 0, 1) := by decide +kernel
theorem dX6_isFigure_9 : decode cX6_isFigure 9 = .ok (.getfield 9, 3) := by decide +kernel
theorem dX6_isFigure_12 : decode cX6_isFigure 12 = .ok (.iload_n 1, 1) := by decide +kernel
theorem dX6_isFigure_13 : decode cX6_isFigure 13 = .ok (.baload, 1) := by decide +kernel
theorem dX6_isFigure_14 : decode cX6_isFigure 14 = .ok (.bipush 48, 2) := by decide +kernel
theorem dX6_isFigure_16 : decode cX6_isFigure 16 = .ok (.if_icmp .lt 18, 3) := by decide +kernel
theorem dX6_isFigure_19 : decode cX6_isFigure 19 = .ok (.aload_n 0, 1) := by decide +kernel
theorem dX6_isFigure_20 : decode cX6_isFigure 20 = .ok (.getfield 9, 3) := by decide +kernel
theorem dX6_isFigure_23 : decode cX6_isFigure 23 = .ok (.iload_n 1, 1) := by decide +kernel
theorem dX6_isFigure_24 : decode cX6_isFigure 24 = .ok (.baload, 1) := by decide +kernel
theorem dX6_isFigure_25 : decode cX6_isFigure 25 = .ok (.bipush 57, 2) := by decide +kernel
theorem dX6_isFigure_27 : decode cX6_isFigure 27 = .ok (.if_icmp .gt 7, 3) := by decide +kernel
theorem dX6_isFigure_30 : decode cX6_isFigure 30 = .ok (.iconst 1, 1) := by decide +kernel
theorem dX6_isFigure_31 : decode cX6_isFigure 31 = .ok (.goto 4, 3) := by decide +kernel
theorem dX6_isFigure_34 : decode cX6_isFigure 34 = .ok (.iconst 0, 1) := by decide +kernel
theorem dX6_isFigure_35 : decode cX6_isFigure 35 = .ok (.ireturn, 1) := by decide +kernel
theorem wScript_isFigure (l : Launch) (G : zG) (v1 : Int32) (M : zM) : zV eI l G zLX zRX 1 yX6_isFigure cX6_isFigure 2 (some .boolean) 0 [(0, .ref 56), (1, .int v1)] [] M (fScript_isFigure v1 M) := by
  rw [fScript_isFigure]
  refine v_iload_n (pc := 0) dX6_isFigure_0 rfl ?_
  refine v_aload_n (pc := 1) dX6_isFigure_1 rfl ?_
  refine v_getI (pc := 2) (q := 2) zk6 lx_56 rfl tw_383 dX6_isFigure_2 ?_
  refine v_icmp_ge (pc := 5) 34 dX6_isFigure_5 (by decide) ?_ ?_
  · refine v_iconst (pc := 34) 0 dX6_isFigure_34 (by decide) ?_
    exact v_zret (pc := 35) dX6_isFigure_35
  · refine v_aload_n (pc := 8) dX6_isFigure_8 rfl ?_
    refine v_getR (pc := 9) (q := 1) zk6 lx_56 rfl rx_56_1 tw_382 dX6_isFigure_9 ?_
    refine v_iload_n (pc := 12) dX6_isFigure_12 rfl ?_
    refine v_bald (pc := 13) lx_57 dX6_isFigure_13 (fun x1 => ?_)
    refine v_bipush (pc := 14) 48 dX6_isFigure_14 (by decide) ?_
    refine v_icmp_lt (pc := 16) 34 dX6_isFigure_16 (by decide) ?_ ?_
    · refine v_iconst (pc := 34) 0 dX6_isFigure_34 (by decide) ?_
      exact v_zret (pc := 35) dX6_isFigure_35
    · refine v_aload_n (pc := 19) dX6_isFigure_19 rfl ?_
      refine v_getR (pc := 20) (q := 1) zk6 lx_56 rfl rx_56_1 tw_382 dX6_isFigure_20 ?_
      refine v_iload_n (pc := 23) dX6_isFigure_23 rfl ?_
      refine v_bald (pc := 24) lx_57 dX6_isFigure_24 (fun x2 => ?_)
      refine v_bipush (pc := 25) 57 dX6_isFigure_25 (by decide) ?_
      refine v_icmp_gt (pc := 27) 34 dX6_isFigure_27 (by decide) ?_ ?_
      · refine v_iconst (pc := 34) 0 dX6_isFigure_34 (by decide) ?_
        exact v_zret (pc := 35) dX6_isFigure_35
      · refine v_iconst (pc := 30) 1 dX6_isFigure_30 (by decide) ?_
        refine v_goto (pc := 31) 35 dX6_isFigure_31 (by decide) ?_
        exact v_zret (pc := 35) dX6_isFigure_35
theorem cScript_isFigure (l : Launch) (G : zG) (v1 : Int32) (M : zM) : zC eI l G zLX zRX 1 yX6_isFigure cX6_isFigure 2 (some .boolean) [.ref 56, .int v1] M (fScript_isFigure v1 M) := zC.of (by decide) (Nat.le_of_ble_eq_true rfl) (v_sub (wScript_isFigure l G v1 M) rfl)
theorem dX6_keep_0 : decode cX6_keep 0 = .ok (.iload_n 1, 1) := by decide +kernel
theorem dX6_keep_1 : decode cX6_keep 1 = .ok (.ifCond .ne 16, 3) := by decide +kernel
theorem dX6_keep_4 : decode cX6_keep 4 = .ok (.aload_n 0, 1) := by decide +kernel
theorem dX6_keep_5 : decode cX6_keep 5 = .ok (.getfield 35, 3) := by decide +kernel
theorem dX6_keep_8 : decode cX6_keep 8 = .ok (.aload_n 0, 1) := by decide +kernel
theorem dX6_keep_9 : decode cX6_keep 9 = .ok (.getfield 28, 3) := by decide +kernel
theorem dX6_keep_12 : decode cX6_keep 12 = .ok (.iload_n 2, 1) := by decide +kernel
theorem dX6_keep_13 : decode cX6_keep 13 = .ok (.iastore, 1) := by decide +kernel
theorem dX6_keep_14 : decode cX6_keep 14 = .ok (.goto 36, 3) := by decide +kernel
theorem dX6_keep_17 : decode cX6_keep 17 = .ok (.iload_n 1, 1) := by decide +kernel
theorem dX6_keep_18 : decode cX6_keep 18 = .ok (.iconst 1, 1) := by decide +kernel
theorem dX6_keep_19 : decode cX6_keep 19 = .ok (.if_icmp .ne 16, 3) := by decide +kernel
theorem dX6_keep_22 : decode cX6_keep 22 = .ok (.aload_n 0, 1) := by decide +kernel
theorem dX6_keep_23 : decode cX6_keep 23 = .ok (.getfield 38, 3) := by decide +kernel
theorem dX6_keep_26 : decode cX6_keep 26 = .ok (.aload_n 0, 1) := by decide +kernel
theorem dX6_keep_27 : decode cX6_keep 27 = .ok (.getfield 28, 3) := by decide +kernel
theorem dX6_keep_30 : decode cX6_keep 30 = .ok (.iload_n 2, 1) := by decide +kernel
theorem dX6_keep_31 : decode cX6_keep 31 = .ok (.iastore, 1) := by decide +kernel
theorem dX6_keep_32 : decode cX6_keep 32 = .ok (.goto 18, 3) := by decide +kernel
theorem dX6_keep_35 : decode cX6_keep 35 = .ok (.aload_n 0, 1) := by decide +kernel
theorem dX6_keep_36 : decode cX6_keep 36 = .ok (.getfield 41, 3) := by decide +kernel
theorem dX6_keep_39 : decode cX6_keep 39 = .ok (.aload_n 0, 1) := by decide +kernel
theorem dX6_keep_40 : decode cX6_keep 40 = .ok (.getfield 28, 3) := by decide +kernel
theorem dX6_keep_43 : decode cX6_keep 43 = .ok (.dup2, 1) := by decide +kernel
theorem dX6_keep_44 : decode cX6_keep 44 = .ok (.iaload, 1) := by decide +kernel
theorem dX6_keep_45 : decode cX6_keep 45 = .ok (.iconst 1, 1) := by decide +kernel
theorem dX6_keep_46 : decode cX6_keep 46 = .ok (.iload_n 2, 1) := by decide +kernel
theorem dX6_keep_47 : decode cX6_keep 47 = .ok (.ishl, 1) := by decide +kernel
theorem dX6_keep_48 : decode cX6_keep 48 = .ok (.ior, 1) := by decide +kernel
theorem dX6_keep_49 : decode cX6_keep 49 = .ok (.iastore, 1) := by decide +kernel
theorem dX6_keep_50 : decode cX6_keep 50 = .ok (.return_, 1) := by decide +kernel
theorem wScript_keep (l : Launch) (G : zG) (v1 : Int32) (v2 : Int32) (M : zM) : zV eV l G zLX zRX 1 yX6_keep cX6_keep 3 none 0 [(0, .ref 56), (1, .int v1), (2, .int v2)] [] M (fScript_keep v1 v2 M) := by
  rw [fScript_keep]
  refine v_iload_n (pc := 0) dX6_keep_0 rfl ?_
  refine v_if_ne (pc := 1) 17 dX6_keep_1 (by decide) ?_ ?_
  · refine v_iload_n (pc := 17) dX6_keep_17 rfl ?_
    refine v_iconst (pc := 18) 1 dX6_keep_18 (by decide) ?_
    refine v_icmp_ne (pc := 19) 35 dX6_keep_19 (by decide) ?_ ?_
    · refine v_aload_n (pc := 35) dX6_keep_35 rfl ?_
      refine v_getR (pc := 36) (q := 10) zk6 lx_56 rfl rx_56_10 tw_397 dX6_keep_36 ?_
      refine v_aload_n (pc := 39) dX6_keep_39 rfl ?_
      refine v_getI (pc := 40) (q := 6) zk6 lx_56 rfl tw_389 dX6_keep_40 ?_
      refine v_dup2 (pc := 43) dX6_keep_43 rfl rfl ?_
      refine v_iald (pc := 44) lx_61 dX6_keep_44 (fun x1 => ?_)
      refine v_iconst (pc := 45) 1 dX6_keep_45 (by decide) ?_
      refine v_iload_n (pc := 46) dX6_keep_46 rfl ?_
      refine v_ishl (pc := 47) dX6_keep_47 ?_
      refine v_ior (pc := 48) dX6_keep_48 ?_
      refine v_iast (pc := 49) lx_61 dX6_keep_49 (fun M2 => ?_)
      exact v_vret (pc := 50) dX6_keep_50
    · refine v_aload_n (pc := 22) dX6_keep_22 rfl ?_
      refine v_getR (pc := 23) (q := 9) zk6 lx_56 rfl rx_56_9 tw_395 dX6_keep_23 ?_
      refine v_aload_n (pc := 26) dX6_keep_26 rfl ?_
      refine v_getI (pc := 27) (q := 6) zk6 lx_56 rfl tw_389 dX6_keep_27 ?_
      refine v_iload_n (pc := 30) dX6_keep_30 rfl ?_
      refine v_iast (pc := 31) lx_60 dX6_keep_31 (fun M3 => ?_)
      refine v_goto (pc := 32) 50 dX6_keep_32 (by decide) ?_
      exact v_vret (pc := 50) dX6_keep_50
  · refine v_aload_n (pc := 4) dX6_keep_4 rfl ?_
    refine v_getR (pc := 5) (q := 8) zk6 lx_56 rfl rx_56_8 tw_393 dX6_keep_5 ?_
    refine v_aload_n (pc := 8) dX6_keep_8 rfl ?_
    refine v_getI (pc := 9) (q := 6) zk6 lx_56 rfl tw_389 dX6_keep_9 ?_
    refine v_iload_n (pc := 12) dX6_keep_12 rfl ?_
    refine v_iast (pc := 13) lx_59 dX6_keep_13 (fun M4 => ?_)
    refine v_goto (pc := 14) 50 dX6_keep_14 (by decide) ?_
    exact v_vret (pc := 50) dX6_keep_50
theorem cScript_keep (l : Launch) (G : zG) (v1 : Int32) (v2 : Int32) (M : zM) : zC eV l G zLX zRX 1 yX6_keep cX6_keep 3 none [.ref 56, .int v1, .int v2] M (fScript_keep v1 v2 M) := zC.of (by decide) (Nat.le_of_ble_eq_true rfl) (v_sub (wScript_keep l G v1 v2 M) rfl)
theorem dX6_readNumber_0 : decode cX6_readNumber 0 = .ok (.aload_n 0, 1) := by decide +kernel
theorem dX6_readNumber_1 : decode cX6_readNumber 1 = .ok (.getfield 25, 3) := by decide +kernel
theorem dX6_readNumber_4 : decode cX6_readNumber 4 = .ok (.istore_n 2, 1) := by decide +kernel
theorem dX6_readNumber_5 : decode cX6_readNumber 5 = .ok (.iconst 0, 1) := by decide +kernel
theorem dX6_readNumber_6 : decode cX6_readNumber 6 = .ok (.istore_n 3, 1) := by decide +kernel
theorem dX6_readNumber_7 : decode cX6_readNumber 7 = .ok (.aload_n 0, 1) := by decide +kernel
theorem dX6_readNumber_8 : decode cX6_readNumber 8 = .ok (.getfield 25, 3) := by decide +kernel
theorem dX6_readNumber_11 : decode cX6_readNumber 11 = .ok (.aload_n 0, 1) := by decide +kernel
theorem dX6_readNumber_12 : decode cX6_readNumber 12 = .ok (.getfield 15, 3) := by decide +kernel
theorem dX6_readNumber_15 : decode cX6_readNumber 15 = .ok (.if_icmp .ge 59, 3) := by decide +kernel
theorem dX6_readNumber_18 : decode cX6_readNumber 18 = .ok (.aload_n 0, 1) := by decide +kernel
theorem dX6_readNumber_19 : decode cX6_readNumber 19 = .ok (.aload_n 0, 1) := by decide +kernel
theorem dX6_readNumber_20 : decode cX6_readNumber 20 = .ok (.getfield 25, 3) := by decide +kernel
theorem dX6_readNumber_23 : decode cX6_readNumber 23 = .ok (.invokevirtual 102, 3) := by decide +kernel
theorem dX6_readNumber_26 : decode cX6_readNumber 26 = .ok (.ifCond .eq 48, 3) := by decide +kernel
theorem dX6_readNumber_29 : decode cX6_readNumber 29 = .ok (.aload_n 0, 1) := by decide +kernel
theorem dX6_readNumber_30 : decode cX6_readNumber 30 = .ok (.getfield 25, 3) := by decide +kernel
theorem dX6_readNumber_33 : decode cX6_readNumber 33 = .ok (.iload_n 2, 1) := by decide +kernel
theorem dX6_readNumber_34 : decode cX6_readNumber 34 = .ok (.isub, 1) := by decide +kernel
theorem dX6_readNumber_35 : decode cX6_readNumber 35 = .ok (.iconst 2, 1) := by decide +kernel
theorem dX6_readNumber_36 : decode cX6_readNumber 36 = .ok (.if_icmp .ge 23, 3) := by decide +kernel
theorem dX6_readNumber_39 : decode cX6_readNumber 39 = .ok (.iload_n 3, 1) := by decide +kernel
theorem dX6_readNumber_40 : decode cX6_readNumber 40 = .ok (.bipush 10, 2) := by decide +kernel
theorem dX6_readNumber_42 : decode cX6_readNumber 42 = .ok (.imul, 1) := by decide +kernel
theorem dX6_readNumber_43 : decode cX6_readNumber 43 = .ok (.aload_n 0, 1) := by decide +kernel
theorem dX6_readNumber_44 : decode cX6_readNumber 44 = .ok (.getfield 9, 3) := by decide +kernel
theorem dX6_readNumber_47 : decode cX6_readNumber 47 = .ok (.aload_n 0, 1) := by decide +kernel
theorem dX6_readNumber_48 : decode cX6_readNumber 48 = .ok (.getfield 25, 3) := by decide +kernel
theorem dX6_readNumber_51 : decode cX6_readNumber 51 = .ok (.baload, 1) := by decide +kernel
theorem dX6_readNumber_52 : decode cX6_readNumber 52 = .ok (.iadd, 1) := by decide +kernel
theorem dX6_readNumber_53 : decode cX6_readNumber 53 = .ok (.bipush 48, 2) := by decide +kernel
theorem dX6_readNumber_55 : decode cX6_readNumber 55 = .ok (.isub, 1) := by decide +kernel
theorem dX6_readNumber_56 : decode cX6_readNumber 56 = .ok (.goto 4, 3) := by decide +kernel
theorem dX6_readNumber_59 : decode cX6_readNumber 59 = .ok (.iload_n 3, 1) := by decide +kernel
theorem dX6_readNumber_60 : decode cX6_readNumber 60 = .ok (.istore_n 3, 1) := by decide +kernel
theorem dX6_readNumber_61 : decode cX6_readNumber 61 = .ok (.aload_n 0, 1) := by decide +kernel
theorem dX6_readNumber_62 : decode cX6_readNumber 62 = .ok (.dup, 1) := by decide +kernel
theorem dX6_readNumber_63 : decode cX6_readNumber 63 = .ok (.getfield 25, 3) := by decide +kernel
theorem dX6_readNumber_66 : decode cX6_readNumber 66 = .ok (.iconst 1, 1) := by decide +kernel
theorem dX6_readNumber_67 : decode cX6_readNumber 67 = .ok (.iadd, 1) := by decide +kernel
theorem dX6_readNumber_68 : decode cX6_readNumber 68 = .ok (.putfield 25, 3) := by decide +kernel
theorem dX6_readNumber_71 : decode cX6_readNumber 71 = .ok (.goto (-64), 3) := by decide +kernel
theorem dX6_readNumber_74 : decode cX6_readNumber 74 = .ok (.aload_n 0, 1) := by decide +kernel
theorem dX6_readNumber_75 : decode cX6_readNumber 75 = .ok (.getfield 25, 3) := by decide +kernel
theorem dX6_readNumber_78 : decode cX6_readNumber 78 = .ok (.iload_n 2, 1) := by decide +kernel
theorem dX6_readNumber_79 : decode cX6_readNumber 79 = .ok (.isub, 1) := by decide +kernel
theorem dX6_readNumber_80 : decode cX6_readNumber 80 = .ok (.iconst 2, 1) := by decide +kernel
theorem dX6_readNumber_81 : decode cX6_readNumber 81 = .ok (.if_icmp .le 12, 3) := by decide +kernel
theorem dX6_readNumber_84 : decode cX6_readNumber 84 = .ok (.aload_n 0, 1) := by decide +kernel
theorem dX6_readNumber_85 : decode cX6_readNumber 85 = .ok (.iconst 2, 1) := by decide +kernel
theorem dX6_readNumber_86 : decode cX6_readNumber 86 = .ok (.iload_n 2, 1) := by decide +kernel
theorem dX6_readNumber_87 : decode cX6_readNumber 87 = .ok (.invokevirtual 64, 3) := by decide +kernel
theorem dX6_readNumber_90 : decode cX6_readNumber 90 = .ok (.goto 48, 3) := by decide +kernel
theorem dX6_readNumber_93 : decode cX6_readNumber 93 = .ok (.iload_n 1, 1) := by decide +kernel
theorem dX6_readNumber_94 : decode cX6_readNumber 94 = .ok (.iconst 2, 1) := by decide +kernel
theorem dX6_readNumber_95 : decode cX6_readNumber 95 = .ok (.if_icmp .ge 17, 3) := by decide +kernel
theorem dX6_readNumber_98 : decode cX6_readNumber 98 = .ok (.aload_n 0, 1) := by decide +kernel
theorem dX6_readNumber_99 : decode cX6_readNumber 99 = .ok (.getfield 50, 3) := by decide +kernel
theorem dX6_readNumber_102 : decode cX6_readNumber 102 = .ok (.iload_n 3, 1) := by decide +kernel
theorem dX6_readNumber_103 : decode cX6_readNumber 103 = .ok (.invokevirtual 108, 3) := by decide +kernel
theorem dX6_readNumber_106 : decode cX6_readNumber 106 = .ok (.ifCond .ne 26, 3) := by decide +kernel
theorem dX6_readNumber_109 : decode cX6_readNumber 109 = .ok (.goto 14, 3) := by decide +kernel
theorem dX6_readNumber_112 : decode cX6_readNumber 112 = .ok (.aload_n 0, 1) := by decide +kernel
theorem dX6_readNumber_113 : decode cX6_readNumber 113 = .ok (.getfield 50, 3) := by decide +kernel
theorem dX6_readNumber_116 : decode cX6_readNumber 116 = .ok (.iload_n 3, 1) := by decide +kernel
theorem dX6_readNumber_117 : decode cX6_readNumber 117 = .ok (.invokevirtual 113, 3) := by decide +kernel
theorem dX6_readNumber_120 : decode cX6_readNumber 120 = .ok (.ifCond .ne 12, 3) := by decide +kernel
theorem dX6_readNumber_123 : decode cX6_readNumber 123 = .ok (.aload_n 0, 1) := by decide +kernel
theorem dX6_readNumber_124 : decode cX6_readNumber 124 = .ok (.iconst 3, 1) := by decide +kernel
theorem dX6_readNumber_125 : decode cX6_readNumber 125 = .ok (.iload_n 2, 1) := by decide +kernel
theorem dX6_readNumber_126 : decode cX6_readNumber 126 = .ok (.invokevirtual 64, 3) := by decide +kernel
theorem dX6_readNumber_129 : decode cX6_readNumber 129 = .ok (.goto 9, 3) := by decide +kernel
theorem dX6_readNumber_132 : decode cX6_readNumber 132 = .ok (.aload_n 0, 1) := by decide +kernel
theorem dX6_readNumber_133 : decode cX6_readNumber 133 = .ok (.iload_n 1, 1) := by decide +kernel
theorem dX6_readNumber_134 : decode cX6_readNumber 134 = .ok (.iload_n 3, 1) := by decide +kernel
theorem dX6_readNumber_135 : decode cX6_readNumber 135 = .ok (.invokevirtual 116, 3) := by decide +kernel
theorem dX6_readNumber_138 : decode cX6_readNumber 138 = .ok (.return_, 1) := by decide +kernel
theorem wScript_readNumber_123 (l : Launch) (G : zG) (v2 : Int32) (M : zM) : zV eV l G zLX zRX 2 yX6_readNumber cX6_readNumber 4 none 123 [(0, .ref 56), (2, .int v2)] [] M (fScript_readNumber_123 v2 M) := by
  rw [fScript_readNumber_123]
  refine v_aload_n (pc := 123) dX6_readNumber_123 rfl ?_
  refine v_iconst (pc := 124) 3 dX6_readNumber_124 (by decide) ?_
  refine v_iload_n (pc := 125) dX6_readNumber_125 rfl ?_
  refine v_callV (pc := 126) (As := [.int 3, .int v2]) (cScript_fail l G 3 v2 M) zc_X6_fail zk6 rfl lx_56 tw_986 (by decide) (Nat.le_of_ble_eq_true rfl) dX6_readNumber_126 (fun _ M1 => ?_)
  skip
  refine v_goto (pc := 129) 138 dX6_readNumber_129 (by decide) ?_
  exact v_vret (pc := 138) dX6_readNumber_138
theorem wScript_readNumber_132 (l : Launch) (G : zG) (v1 : Int32) (v3 : Int32) (M : zM) : zV eV l G zLX zRX 2 yX6_readNumber cX6_readNumber 4 none 132 [(0, .ref 56), (1, .int v1), (3, .int v3)] [] M (fScript_readNumber_132 v1 v3 M) := by
  rw [fScript_readNumber_132]
  refine v_aload_n (pc := 132) dX6_readNumber_132 rfl ?_
  refine v_iload_n (pc := 133) dX6_readNumber_133 rfl ?_
  refine v_iload_n (pc := 134) dX6_readNumber_134 rfl ?_
  refine v_callV (pc := 135) (As := [.int v1, .int v3]) (cScript_keep l G v1 v3 M) zc_X6_keep zk6 rfl lx_56 tw_1004 (by decide) (Nat.le_of_ble_eq_true rfl) dX6_readNumber_135 (fun _ M1 => ?_)
  skip
  exact v_vret (pc := 138) dX6_readNumber_138
theorem wScript_readNumber_74 (l : Launch) (G : zG) (v1 : Int32) (v2 : Int32) (v3 : Int32) (M : zM) : zV eV l G zLX zRX 2 yX6_readNumber cX6_readNumber 4 none 74 [(0, .ref 56), (1, .int v1), (2, .int v2), (3, .int v3)] [] M (fScript_readNumber_74 v1 v2 v3 M) := by
  rw [fScript_readNumber_74]
  refine v_aload_n (pc := 74) dX6_readNumber_74 rfl ?_
  refine v_getI (pc := 75) (q := 5) zk6 lx_56 rfl tw_388 dX6_readNumber_75 ?_
  refine v_iload_n (pc := 78) dX6_readNumber_78 rfl ?_
  refine v_isub (pc := 79) dX6_readNumber_79 ?_
  refine v_iconst (pc := 80) 2 dX6_readNumber_80 (by decide) ?_
  refine v_icmp_le (pc := 81) 93 dX6_readNumber_81 (by decide) ?_ ?_
  · refine v_iload_n (pc := 93) dX6_readNumber_93 rfl ?_
    refine v_iconst (pc := 94) 2 dX6_readNumber_94 (by decide) ?_
    refine v_icmp_ge (pc := 95) 112 dX6_readNumber_95 (by decide) ?_ ?_
    · refine v_aload_n (pc := 112) dX6_readNumber_112 rfl ?_
      refine v_getR (pc := 113) (q := 0) zk6 lx_56 rfl rx_56_0 tw_381 dX6_readNumber_113 ?_
      refine v_iload_n (pc := 116) dX6_readNumber_116 rfl ?_
      refine v_callV (pc := 117) (As := [.int v3]) (cNet_hasLine l G v3 M) zc_X3_hasLine zk3 rfl lx_1 tw_1003 (by decide) (Nat.le_of_ble_eq_true rfl) dX6_readNumber_117 (fun r2 M1 => ?_)
      refine v_if_ne (pc := 120) 132 dX6_readNumber_120 (by decide) ?_ ?_
      · exact v_sub (wScript_readNumber_132 l G v1 v3 M1) rfl
      · exact v_sub (wScript_readNumber_123 l G v2 M1) rfl
    · refine v_aload_n (pc := 98) dX6_readNumber_98 rfl ?_
      refine v_getR (pc := 99) (q := 0) zk6 lx_56 rfl rx_56_0 tw_381 dX6_readNumber_99 ?_
      refine v_iload_n (pc := 102) dX6_readNumber_102 rfl ?_
      refine v_callV (pc := 103) (As := [.int v3]) (cNet_hasPost l G v3 M) zc_X3_hasPost zk3 rfl lx_1 tw_1002 (by decide) (Nat.le_of_ble_eq_true rfl) dX6_readNumber_103 (fun r4 M3 => ?_)
      refine v_if_ne (pc := 106) 132 dX6_readNumber_106 (by decide) ?_ ?_
      · exact v_sub (wScript_readNumber_132 l G v1 v3 M3) rfl
      · refine v_goto (pc := 109) 123 dX6_readNumber_109 (by decide) ?_
        exact v_sub (wScript_readNumber_123 l G v2 M3) rfl
  · refine v_aload_n (pc := 84) dX6_readNumber_84 rfl ?_
    refine v_iconst (pc := 85) 2 dX6_readNumber_85 (by decide) ?_
    refine v_iload_n (pc := 86) dX6_readNumber_86 rfl ?_
    refine v_callV (pc := 87) (As := [.int 2, .int v2]) (cScript_fail l G 2 v2 M) zc_X6_fail zk6 rfl lx_56 tw_986 (by decide) (Nat.le_of_ble_eq_true rfl) dX6_readNumber_87 (fun _ M5 => ?_)
    skip
    refine v_goto (pc := 90) 138 dX6_readNumber_90 (by decide) ?_
    exact v_vret (pc := 138) dX6_readNumber_138
theorem wScript_readNumber_7 (l : Launch) (G : zG) : ∀ (fuel : Nat) (v1 : Int32) (v2 : Int32) (v3 : Int32) (M : zM), zV eV l G zLX zRX 2 yX6_readNumber cX6_readNumber 4 none 7 [(0, .ref 56), (1, .int v1), (2, .int v2), (3, .int v3)] [] M (fScript_readNumber_7 fuel v1 v2 v3 M) := by
  intro fuel
  induction fuel with
  | zero => intro v1 v2 v3 M; exact v_none
  | succ fuel ih =>
    intro v1 v2 v3 M
    rw [fScript_readNumber_7]
    refine v_aload_n (pc := 7) dX6_readNumber_7 rfl ?_
    refine v_getI (pc := 8) (q := 5) zk6 lx_56 rfl tw_388 dX6_readNumber_8 ?_
    refine v_aload_n (pc := 11) dX6_readNumber_11 rfl ?_
    refine v_getI (pc := 12) (q := 2) zk6 lx_56 rfl tw_383 dX6_readNumber_12 ?_
    refine v_icmp_ge (pc := 15) 74 dX6_readNumber_15 (by decide) ?_ ?_
    · exact v_sub (wScript_readNumber_74 l G v1 v2 v3 M) rfl
    · refine v_aload_n (pc := 18) dX6_readNumber_18 rfl ?_
      refine v_aload_n (pc := 19) dX6_readNumber_19 rfl ?_
      refine v_getI (pc := 20) (q := 5) zk6 lx_56 rfl tw_388 dX6_readNumber_20 ?_
      refine v_callV (pc := 23) (As := [.int (M 56 5)]) (cScript_isFigure l G (M 56 5) M) zc_X6_isFigure zk6 rfl lx_56 tw_994 (by decide) (Nat.le_of_ble_eq_true rfl) dX6_readNumber_23 (fun r2 M1 => ?_)
      refine v_if_eq (pc := 26) 74 dX6_readNumber_26 (by decide) ?_ ?_
      · exact v_sub (wScript_readNumber_74 l G v1 v2 v3 M1) rfl
      · refine v_aload_n (pc := 29) dX6_readNumber_29 rfl ?_
        refine v_getI (pc := 30) (q := 5) zk6 lx_56 rfl tw_388 dX6_readNumber_30 ?_
        refine v_iload_n (pc := 33) dX6_readNumber_33 rfl ?_
        refine v_isub (pc := 34) dX6_readNumber_34 ?_
        refine v_iconst (pc := 35) 2 dX6_readNumber_35 (by decide) ?_
        refine v_icmp_ge (pc := 36) 59 dX6_readNumber_36 (by decide) ?_ ?_
        · refine v_iload_n (pc := 59) dX6_readNumber_59 rfl ?_
          refine v_istore_n (pc := 60) dX6_readNumber_60 (by decide) ?_
          refine v_aload_n (pc := 61) dX6_readNumber_61 rfl ?_
          refine v_dup (pc := 62) dX6_readNumber_62 rfl ?_
          refine v_getI (pc := 63) (q := 5) zk6 lx_56 rfl tw_388 dX6_readNumber_63 ?_
          refine v_iconst (pc := 66) 1 dX6_readNumber_66 (by decide) ?_
          refine v_iadd (pc := 67) dX6_readNumber_67 ?_
          refine v_putI (pc := 68) (q := 5) zk6 lx_56 rfl tw_388 rfl rfl rfl dX6_readNumber_68 (fun M3 => ?_)
          refine v_goto (pc := 71) 7 dX6_readNumber_71 (by decide) ?_
          exact v_sub (ih v1 v2 v3 M3) rfl
        · refine v_iload_n (pc := 39) dX6_readNumber_39 rfl ?_
          refine v_bipush (pc := 40) 10 dX6_readNumber_40 (by decide) ?_
          refine v_imul (pc := 42) dX6_readNumber_42 ?_
          refine v_aload_n (pc := 43) dX6_readNumber_43 rfl ?_
          refine v_getR (pc := 44) (q := 1) zk6 lx_56 rfl rx_56_1 tw_382 dX6_readNumber_44 ?_
          refine v_aload_n (pc := 47) dX6_readNumber_47 rfl ?_
          refine v_getI (pc := 48) (q := 5) zk6 lx_56 rfl tw_388 dX6_readNumber_48 ?_
          refine v_bald (pc := 51) lx_57 dX6_readNumber_51 (fun x4 => ?_)
          refine v_iadd (pc := 52) dX6_readNumber_52 ?_
          refine v_bipush (pc := 53) 48 dX6_readNumber_53 (by decide) ?_
          refine v_isub (pc := 55) dX6_readNumber_55 ?_
          refine v_goto (pc := 56) 60 dX6_readNumber_56 (by decide) ?_
          refine v_istore_nL (pc := 60) dX6_readNumber_60 (by decide) (fun u3_60 => ?_)
          refine v_aload_n (pc := 61) dX6_readNumber_61 rfl ?_
          refine v_dup (pc := 62) dX6_readNumber_62 rfl ?_
          refine v_getI (pc := 63) (q := 5) zk6 lx_56 rfl tw_388 dX6_readNumber_63 ?_
          refine v_iconst (pc := 66) 1 dX6_readNumber_66 (by decide) ?_
          refine v_iadd (pc := 67) dX6_readNumber_67 ?_
          refine v_putI (pc := 68) (q := 5) zk6 lx_56 rfl tw_388 rfl rfl rfl dX6_readNumber_68 (fun M5 => ?_)
          refine v_goto (pc := 71) 7 dX6_readNumber_71 (by decide) ?_
          exact v_sub (ih v1 v2 u3_60 M5) rfl
theorem wScript_readNumber (l : Launch) (G : zG) (v1 : Int32) (M : zM) : zV eV l G zLX zRX 2 yX6_readNumber cX6_readNumber 4 none 0 [(0, .ref 56), (1, .int v1)] [] M (fScript_readNumber v1 M) := by
  rw [fScript_readNumber]
  refine v_aload_n (pc := 0) dX6_readNumber_0 rfl ?_
  refine v_getI (pc := 1) (q := 5) zk6 lx_56 rfl tw_388 dX6_readNumber_1 ?_
  refine v_istore_nL (pc := 4) dX6_readNumber_4 (by decide) (fun u2_4 => ?_)
  refine v_iconst (pc := 5) 0 dX6_readNumber_5 (by decide) ?_
  refine v_istore_n (pc := 6) dX6_readNumber_6 (by decide) ?_
  exact v_sub (wScript_readNumber_7 l G FU v1 u2_4 0 M) rfl
theorem cScript_readNumber (l : Launch) (G : zG) (v1 : Int32) (M : zM) : zC eV l G zLX zRX 2 yX6_readNumber cX6_readNumber 4 none [.ref 56, .int v1] M (fScript_readNumber v1 M) := zC.of (by decide) (Nat.le_of_ble_eq_true rfl) (v_sub (wScript_readNumber l G v1 M) rfl)
theorem dX6_readNumbers_0 : decode cX6_readNumbers 0 = .ok (.iconst 0, 1) := by decide +kernel
theorem dX6_readNumbers_1 : decode cX6_readNumbers 1 = .ok (.istore_n 2, 1) := by decide +kernel
theorem dX6_readNumbers_2 : decode cX6_readNumbers 2 = .ok (.iload_n 2, 1) := by decide +kernel
theorem dX6_readNumbers_3 : decode cX6_readNumbers 3 = .ok (.iload_n 1, 1) := by decide +kernel
theorem dX6_readNumbers_4 : decode cX6_readNumbers 4 = .ok (.if_icmp .gt 94, 3) := by decide +kernel
theorem dX6_readNumbers_7 : decode cX6_readNumbers 7 = .ok (.aload_n 0, 1) := by decide +kernel
theorem dX6_readNumbers_8 : decode cX6_readNumbers 8 = .ok (.getfield 22, 3) := by decide +kernel
theorem dX6_readNumbers_11 : decode cX6_readNumbers 11 = .ok (.ifCond .ne 87, 3) := by decide +kernel
theorem dX6_readNumbers_14 : decode cX6_readNumbers 14 = .ok (.aload_n 0, 1) := by decide +kernel
theorem dX6_readNumbers_15 : decode cX6_readNumbers 15 = .ok (.invokevirtual 54, 3) := by decide +kernel
theorem dX6_readNumbers_18 : decode cX6_readNumbers 18 = .ok (.iload_n 2, 1) := by decide +kernel
theorem dX6_readNumbers_19 : decode cX6_readNumbers 19 = .ok (.iconst 2, 1) := by decide +kernel
theorem dX6_readNumbers_20 : decode cX6_readNumbers 20 = .ok (.if_icmp .lt 39, 3) := by decide +kernel
theorem dX6_readNumbers_23 : decode cX6_readNumbers 23 = .ok (.aload_n 0, 1) := by decide +kernel
theorem dX6_readNumbers_24 : decode cX6_readNumbers 24 = .ok (.getfield 25, 3) := by decide +kernel
theorem dX6_readNumbers_27 : decode cX6_readNumbers 27 = .ok (.aload_n 0, 1) := by decide +kernel
theorem dX6_readNumbers_28 : decode cX6_readNumbers 28 = .ok (.getfield 15, 3) := by decide +kernel
theorem dX6_readNumbers_31 : decode cX6_readNumbers 31 = .ok (.if_icmp .ge 28, 3) := by decide +kernel
theorem dX6_readNumbers_34 : decode cX6_readNumbers 34 = .ok (.aload_n 0, 1) := by decide +kernel
theorem dX6_readNumbers_35 : decode cX6_readNumbers 35 = .ok (.getfield 9, 3) := by decide +kernel
theorem dX6_readNumbers_38 : decode cX6_readNumbers 38 = .ok (.aload_n 0, 1) := by decide +kernel
theorem dX6_readNumbers_39 : decode cX6_readNumbers 39 = .ok (.getfield 25, 3) := by decide +kernel
theorem dX6_readNumbers_42 : decode cX6_readNumbers 42 = .ok (.baload, 1) := by decide +kernel
theorem dX6_readNumbers_43 : decode cX6_readNumbers 43 = .ok (.bipush 59, 2) := by decide +kernel
theorem dX6_readNumbers_45 : decode cX6_readNumbers 45 = .ok (.if_icmp .ne 14, 3) := by decide +kernel
theorem dX6_readNumbers_48 : decode cX6_readNumbers 48 = .ok (.aload_n 0, 1) := by decide +kernel
theorem dX6_readNumbers_49 : decode cX6_readNumbers 49 = .ok (.dup, 1) := by decide +kernel
theorem dX6_readNumbers_50 : decode cX6_readNumbers 50 = .ok (.getfield 25, 3) := by decide +kernel
theorem dX6_readNumbers_53 : decode cX6_readNumbers 53 = .ok (.iconst 1, 1) := by decide +kernel
theorem dX6_readNumbers_54 : decode cX6_readNumbers 54 = .ok (.iadd, 1) := by decide +kernel
theorem dX6_readNumbers_55 : decode cX6_readNumbers 55 = .ok (.putfield 25, 3) := by decide +kernel
theorem dX6_readNumbers_58 : decode cX6_readNumbers 58 = .ok (.return_, 1) := by decide +kernel
theorem dX6_readNumbers_59 : decode cX6_readNumbers 59 = .ok (.iload_n 2, 1) := by decide +kernel
theorem dX6_readNumbers_60 : decode cX6_readNumbers 60 = .ok (.iload_n 1, 1) := by decide +kernel
theorem dX6_readNumbers_61 : decode cX6_readNumbers 61 = .ok (.if_icmp .ge 22, 3) := by decide +kernel
theorem dX6_readNumbers_64 : decode cX6_readNumbers 64 = .ok (.aload_n 0, 1) := by decide +kernel
theorem dX6_readNumbers_65 : decode cX6_readNumbers 65 = .ok (.aload_n 0, 1) := by decide +kernel
theorem dX6_readNumbers_66 : decode cX6_readNumbers 66 = .ok (.getfield 25, 3) := by decide +kernel
theorem dX6_readNumbers_69 : decode cX6_readNumbers 69 = .ok (.invokevirtual 102, 3) := by decide +kernel
theorem dX6_readNumbers_72 : decode cX6_readNumbers 72 = .ok (.ifCond .eq 11, 3) := by decide +kernel
theorem dX6_readNumbers_75 : decode cX6_readNumbers 75 = .ok (.aload_n 0, 1) := by decide +kernel
theorem dX6_readNumbers_76 : decode cX6_readNumbers 76 = .ok (.iload_n 2, 1) := by decide +kernel
theorem dX6_readNumbers_77 : decode cX6_readNumbers 77 = .ok (.invokevirtual 105, 3) := by decide +kernel
theorem dX6_readNumbers_80 : decode cX6_readNumbers 80 = .ok (.goto 12, 3) := by decide +kernel
theorem dX6_readNumbers_83 : decode cX6_readNumbers 83 = .ok (.aload_n 0, 1) := by decide +kernel
theorem dX6_readNumbers_84 : decode cX6_readNumbers 84 = .ok (.iconst 1, 1) := by decide +kernel
theorem dX6_readNumbers_85 : decode cX6_readNumbers 85 = .ok (.aload_n 0, 1) := by decide +kernel
theorem dX6_readNumbers_86 : decode cX6_readNumbers 86 = .ok (.getfield 25, 3) := by decide +kernel
theorem dX6_readNumbers_89 : decode cX6_readNumbers 89 = .ok (.invokevirtual 64, 3) := by decide +kernel
theorem dX6_readNumbers_92 : decode cX6_readNumbers 92 = .ok (.iinc 2 1, 3) := by decide +kernel
theorem dX6_readNumbers_95 : decode cX6_readNumbers 95 = .ok (.goto (-93), 3) := by decide +kernel
theorem dX6_readNumbers_98 : decode cX6_readNumbers 98 = .ok (.return_, 1) := by decide +kernel
theorem wScript_readNumbers_83 (l : Launch) (G : zG) (k2 : Int32 → Int32 → zM → Option (Unit × zM)) (hk2 : ∀ (v1 : Int32) (v2 : Int32) (M : zM), zV eV l G zLX zRX 3 yX6_readNumbers cX6_readNumbers 3 none 2 [(0, .ref 56), (1, .int v1), (2, .int v2)] [] M (k2 v1 v2 M)) (v1 : Int32) (v2 : Int32) (M : zM) : zV eV l G zLX zRX 3 yX6_readNumbers cX6_readNumbers 3 none 83 [(0, .ref 56), (1, .int v1), (2, .int v2)] [] M (fScript_readNumbers_83 k2 v1 v2 M) := by
  rw [fScript_readNumbers_83]
  refine v_aload_n (pc := 83) dX6_readNumbers_83 rfl ?_
  refine v_iconst (pc := 84) 1 dX6_readNumbers_84 (by decide) ?_
  refine v_aload_n (pc := 85) dX6_readNumbers_85 rfl ?_
  refine v_getI (pc := 86) (q := 5) zk6 lx_56 rfl tw_388 dX6_readNumbers_86 ?_
  refine v_callV (pc := 89) (As := [.int 1, .int (M 56 5)]) (cScript_fail l G 1 (M 56 5) M) zc_X6_fail zk6 rfl lx_56 tw_986 (by decide) (Nat.le_of_ble_eq_true rfl) dX6_readNumbers_89 (fun _ M1 => ?_)
  skip
  refine v_iinc (pc := 92) 1 dX6_readNumbers_92 rfl (by decide) (by decide) ?_
  refine v_goto (pc := 95) 2 dX6_readNumbers_95 (by decide) ?_
  exact v_sub (hk2 v1 (v2 + 1) M1) rfl
theorem wScript_readNumbers_59 (l : Launch) (G : zG) (k2 : Int32 → Int32 → zM → Option (Unit × zM)) (hk2 : ∀ (v1 : Int32) (v2 : Int32) (M : zM), zV eV l G zLX zRX 3 yX6_readNumbers cX6_readNumbers 3 none 2 [(0, .ref 56), (1, .int v1), (2, .int v2)] [] M (k2 v1 v2 M)) (v1 : Int32) (v2 : Int32) (M : zM) : zV eV l G zLX zRX 3 yX6_readNumbers cX6_readNumbers 3 none 59 [(0, .ref 56), (1, .int v1), (2, .int v2)] [] M (fScript_readNumbers_59 k2 v1 v2 M) := by
  rw [fScript_readNumbers_59]
  refine v_iload_n (pc := 59) dX6_readNumbers_59 rfl ?_
  refine v_iload_n (pc := 60) dX6_readNumbers_60 rfl ?_
  refine v_icmp_ge (pc := 61) 83 dX6_readNumbers_61 (by decide) ?_ ?_
  · exact v_sub (wScript_readNumbers_83 l G k2 hk2 v1 v2 M) rfl
  · refine v_aload_n (pc := 64) dX6_readNumbers_64 rfl ?_
    refine v_aload_n (pc := 65) dX6_readNumbers_65 rfl ?_
    refine v_getI (pc := 66) (q := 5) zk6 lx_56 rfl tw_388 dX6_readNumbers_66 ?_
    refine v_callV (pc := 69) (As := [.int (M 56 5)]) (cScript_isFigure l G (M 56 5) M) zc_X6_isFigure zk6 rfl lx_56 tw_994 (by decide) (Nat.le_of_ble_eq_true rfl) dX6_readNumbers_69 (fun r2 M1 => ?_)
    refine v_if_eq (pc := 72) 83 dX6_readNumbers_72 (by decide) ?_ ?_
    · exact v_sub (wScript_readNumbers_83 l G k2 hk2 v1 v2 M1) rfl
    · refine v_aload_n (pc := 75) dX6_readNumbers_75 rfl ?_
      refine v_iload_n (pc := 76) dX6_readNumbers_76 rfl ?_
      refine v_callV (pc := 77) (As := [.int v2]) (cScript_readNumber l G v2 M1) zc_X6_readNumber zk6 rfl lx_56 tw_998 (by decide) (Nat.le_of_ble_eq_true rfl) dX6_readNumbers_77 (fun _ M3 => ?_)
      skip
      refine v_goto (pc := 80) 92 dX6_readNumbers_80 (by decide) ?_
      refine v_iinc (pc := 92) 1 dX6_readNumbers_92 rfl (by decide) (by decide) ?_
      refine v_goto (pc := 95) 2 dX6_readNumbers_95 (by decide) ?_
      exact v_sub (hk2 v1 (v2 + 1) M3) rfl
theorem wScript_readNumbers_2 (l : Launch) (G : zG) : ∀ (fuel : Nat) (v1 : Int32) (v2 : Int32) (M : zM), zV eV l G zLX zRX 3 yX6_readNumbers cX6_readNumbers 3 none 2 [(0, .ref 56), (1, .int v1), (2, .int v2)] [] M (fScript_readNumbers_2 fuel v1 v2 M) := by
  intro fuel
  induction fuel with
  | zero => intro v1 v2 M; exact v_none
  | succ fuel ih =>
    intro v1 v2 M
    rw [fScript_readNumbers_2]
    refine v_iload_n (pc := 2) dX6_readNumbers_2 rfl ?_
    refine v_iload_n (pc := 3) dX6_readNumbers_3 rfl ?_
    refine v_icmp_gt (pc := 4) 98 dX6_readNumbers_4 (by decide) ?_ ?_
    · exact v_vret (pc := 98) dX6_readNumbers_98
    · refine v_aload_n (pc := 7) dX6_readNumbers_7 rfl ?_
      refine v_getI (pc := 8) (q := 4) zk6 lx_56 rfl tw_387 dX6_readNumbers_8 ?_
      refine v_if_ne (pc := 11) 98 dX6_readNumbers_11 (by decide) ?_ ?_
      · exact v_vret (pc := 98) dX6_readNumbers_98
      · refine v_aload_n (pc := 14) dX6_readNumbers_14 rfl ?_
        refine v_callV (pc := 15) (As := []) (cScript_skipBlanks l G  M) zc_X6_skipBlanks zk6 rfl lx_56 tw_910 (by decide) (Nat.le_of_ble_eq_true rfl) dX6_readNumbers_15 (fun _ M1 => ?_)
        skip
        refine v_iload_n (pc := 18) dX6_readNumbers_18 rfl ?_
        refine v_iconst (pc := 19) 2 dX6_readNumbers_19 (by decide) ?_
        refine v_icmp_lt (pc := 20) 59 dX6_readNumbers_20 (by decide) ?_ ?_
        · exact v_sub (wScript_readNumbers_59 l G (fScript_readNumbers_2 fuel) ih v1 v2 M1) rfl
        · refine v_aload_n (pc := 23) dX6_readNumbers_23 rfl ?_
          refine v_getI (pc := 24) (q := 5) zk6 lx_56 rfl tw_388 dX6_readNumbers_24 ?_
          refine v_aload_n (pc := 27) dX6_readNumbers_27 rfl ?_
          refine v_getI (pc := 28) (q := 2) zk6 lx_56 rfl tw_383 dX6_readNumbers_28 ?_
          refine v_icmp_ge (pc := 31) 59 dX6_readNumbers_31 (by decide) ?_ ?_
          · exact v_sub (wScript_readNumbers_59 l G (fScript_readNumbers_2 fuel) ih v1 v2 M1) rfl
          · refine v_aload_n (pc := 34) dX6_readNumbers_34 rfl ?_
            refine v_getR (pc := 35) (q := 1) zk6 lx_56 rfl rx_56_1 tw_382 dX6_readNumbers_35 ?_
            refine v_aload_n (pc := 38) dX6_readNumbers_38 rfl ?_
            refine v_getI (pc := 39) (q := 5) zk6 lx_56 rfl tw_388 dX6_readNumbers_39 ?_
            refine v_bald (pc := 42) lx_57 dX6_readNumbers_42 (fun x2 => ?_)
            refine v_bipush (pc := 43) 59 dX6_readNumbers_43 (by decide) ?_
            refine v_icmp_ne (pc := 45) 59 dX6_readNumbers_45 (by decide) ?_ ?_
            · exact v_sub (wScript_readNumbers_59 l G (fScript_readNumbers_2 fuel) ih v1 v2 M1) rfl
            · refine v_aload_n (pc := 48) dX6_readNumbers_48 rfl ?_
              refine v_dup (pc := 49) dX6_readNumbers_49 rfl ?_
              refine v_getI (pc := 50) (q := 5) zk6 lx_56 rfl tw_388 dX6_readNumbers_50 ?_
              refine v_iconst (pc := 53) 1 dX6_readNumbers_53 (by decide) ?_
              refine v_iadd (pc := 54) dX6_readNumbers_54 ?_
              refine v_putI (pc := 55) (q := 5) zk6 lx_56 rfl tw_388 rfl rfl rfl dX6_readNumbers_55 (fun M3 => ?_)
              exact v_vret (pc := 58) dX6_readNumbers_58
theorem wScript_readNumbers (l : Launch) (G : zG) (v1 : Int32) (M : zM) : zV eV l G zLX zRX 3 yX6_readNumbers cX6_readNumbers 3 none 0 [(0, .ref 56), (1, .int v1)] [] M (fScript_readNumbers v1 M) := by
  rw [fScript_readNumbers]
  refine v_iconst (pc := 0) 0 dX6_readNumbers_0 (by decide) ?_
  refine v_istore_n (pc := 1) dX6_readNumbers_1 (by decide) ?_
  exact v_sub (wScript_readNumbers_2 l G FU v1 0 M) rfl
theorem cScript_readNumbers (l : Launch) (G : zG) (v1 : Int32) (M : zM) : zC eV l G zLX zRX 3 yX6_readNumbers cX6_readNumbers 3 none [.ref 56, .int v1] M (fScript_readNumbers v1 M) := zC.of (by decide) (Nat.le_of_ble_eq_true rfl) (v_sub (wScript_readNumbers l G v1 M) rfl)
theorem dX6_readQuestion_0 : decode cX6_readQuestion 0 = .ok (.aload_n 0, 1) := by decide +kernel
theorem dX6_readQuestion_1 : decode cX6_readQuestion 1 = .ok (.getfield 25, 3) := by decide +kernel
theorem dX6_readQuestion_4 : decode cX6_readQuestion 4 = .ok (.istore_n 1, 1) := by decide +kernel
theorem dX6_readQuestion_5 : decode cX6_readQuestion 5 = .ok (.aload_n 0, 1) := by decide +kernel
theorem dX6_readQuestion_6 : decode cX6_readQuestion 6 = .ok (.invokevirtual 60, 3) := by decide +kernel
theorem dX6_readQuestion_9 : decode cX6_readQuestion 9 = .ok (.istore_n 2, 1) := by decide +kernel
theorem dX6_readQuestion_10 : decode cX6_readQuestion 10 = .ok (.iload_n 2, 1) := by decide +kernel
theorem dX6_readQuestion_11 : decode cX6_readQuestion 11 = .ok (.iconst (-1), 1) := by decide +kernel
theorem dX6_readQuestion_12 : decode cX6_readQuestion 12 = .ok (.if_icmp .ne 12, 3) := by decide +kernel
theorem dX6_readQuestion_15 : decode cX6_readQuestion 15 = .ok (.aload_n 0, 1) := by decide +kernel
theorem dX6_readQuestion_16 : decode cX6_readQuestion 16 = .ok (.iconst 1, 1) := by decide +kernel
theorem dX6_readQuestion_17 : decode cX6_readQuestion 17 = .ok (.iload_n 1, 1) := by decide +kernel
theorem dX6_readQuestion_18 : decode cX6_readQuestion 18 = .ok (.invokevirtual 64, 3) := by decide +kernel
theorem dX6_readQuestion_21 : decode cX6_readQuestion 21 = .ok (.goto 66, 3) := by decide +kernel
theorem dX6_readQuestion_24 : decode cX6_readQuestion 24 = .ok (.aload_n 0, 1) := by decide +kernel
theorem dX6_readQuestion_25 : decode cX6_readQuestion 25 = .ok (.getfield 28, 3) := by decide +kernel
theorem dX6_readQuestion_28 : decode cX6_readQuestion 28 = .ok (.bipush 12, 2) := by decide +kernel
theorem dX6_readQuestion_30 : decode cX6_readQuestion 30 = .ok (.if_icmp .lt 12, 3) := by decide +kernel
theorem dX6_readQuestion_33 : decode cX6_readQuestion 33 = .ok (.aload_n 0, 1) := by decide +kernel
theorem dX6_readQuestion_34 : decode cX6_readQuestion 34 = .ok (.iconst 4, 1) := by decide +kernel
theorem dX6_readQuestion_35 : decode cX6_readQuestion 35 = .ok (.iload_n 1, 1) := by decide +kernel
theorem dX6_readQuestion_36 : decode cX6_readQuestion 36 = .ok (.invokevirtual 64, 3) := by decide +kernel
theorem dX6_readQuestion_39 : decode cX6_readQuestion 39 = .ok (.goto 48, 3) := by decide +kernel
theorem dX6_readQuestion_42 : decode cX6_readQuestion 42 = .ok (.aload_n 0, 1) := by decide +kernel
theorem dX6_readQuestion_43 : decode cX6_readQuestion 43 = .ok (.getfield 31, 3) := by decide +kernel
theorem dX6_readQuestion_46 : decode cX6_readQuestion 46 = .ok (.aload_n 0, 1) := by decide +kernel
theorem dX6_readQuestion_47 : decode cX6_readQuestion 47 = .ok (.getfield 28, 3) := by decide +kernel
theorem dX6_readQuestion_50 : decode cX6_readQuestion 50 = .ok (.iload_n 2, 1) := by decide +kernel
theorem dX6_readQuestion_51 : decode cX6_readQuestion 51 = .ok (.iastore, 1) := by decide +kernel
theorem dX6_readQuestion_52 : decode cX6_readQuestion 52 = .ok (.aload_n 0, 1) := by decide +kernel
theorem dX6_readQuestion_53 : decode cX6_readQuestion 53 = .ok (.getfield 41, 3) := by decide +kernel
theorem dX6_readQuestion_56 : decode cX6_readQuestion 56 = .ok (.aload_n 0, 1) := by decide +kernel
theorem dX6_readQuestion_57 : decode cX6_readQuestion 57 = .ok (.getfield 28, 3) := by decide +kernel
theorem dX6_readQuestion_60 : decode cX6_readQuestion 60 = .ok (.iconst 0, 1) := by decide +kernel
theorem dX6_readQuestion_61 : decode cX6_readQuestion 61 = .ok (.iastore, 1) := by decide +kernel
theorem dX6_readQuestion_62 : decode cX6_readQuestion 62 = .ok (.aload_n 0, 1) := by decide +kernel
theorem dX6_readQuestion_63 : decode cX6_readQuestion 63 = .ok (.iload_n 2, 1) := by decide +kernel
theorem dX6_readQuestion_64 : decode cX6_readQuestion 64 = .ok (.iconst 3, 1) := by decide +kernel
theorem dX6_readQuestion_65 : decode cX6_readQuestion 65 = .ok (.if_icmp .ne 8, 3) := by decide +kernel
theorem dX6_readQuestion_68 : decode cX6_readQuestion 68 = .ok (.bipush 8, 2) := by decide +kernel
theorem dX6_readQuestion_70 : decode cX6_readQuestion 70 = .ok (.goto 4, 3) := by decide +kernel
theorem dX6_readQuestion_73 : decode cX6_readQuestion 73 = .ok (.iconst 2, 1) := by decide +kernel
theorem dX6_readQuestion_74 : decode cX6_readQuestion 74 = .ok (.invokevirtual 68, 3) := by decide +kernel
theorem dX6_readQuestion_77 : decode cX6_readQuestion 77 = .ok (.aload_n 0, 1) := by decide +kernel
theorem dX6_readQuestion_78 : decode cX6_readQuestion 78 = .ok (.dup, 1) := by decide +kernel
theorem dX6_readQuestion_79 : decode cX6_readQuestion 79 = .ok (.getfield 28, 3) := by decide +kernel
theorem dX6_readQuestion_82 : decode cX6_readQuestion 82 = .ok (.iconst 1, 1) := by decide +kernel
theorem dX6_readQuestion_83 : decode cX6_readQuestion 83 = .ok (.iadd, 1) := by decide +kernel
theorem dX6_readQuestion_84 : decode cX6_readQuestion 84 = .ok (.putfield 28, 3) := by decide +kernel
theorem dX6_readQuestion_87 : decode cX6_readQuestion 87 = .ok (.return_, 1) := by decide +kernel
theorem wScript_readQuestion_74 (l : Launch) (G : zG) (vs0 : Int32) (M : zM) : zV eV l G zLX zRX 8 yX6_readQuestion cX6_readQuestion 3 none 74 [(0, .ref 56)] [.int vs0, .ref 56] M (fScript_readQuestion_74 vs0 M) := by
  rw [fScript_readQuestion_74]
  refine v_callV (pc := 74) (As := [.int vs0]) (cScript_readNumbers l G vs0 M) zc_X6_readNumbers zk6 rfl lx_56 tw_990 (by decide) (Nat.le_of_ble_eq_true rfl) dX6_readQuestion_74 (fun _ M1 => ?_)
  skip
  refine v_aload_n (pc := 77) dX6_readQuestion_77 rfl ?_
  refine v_dup (pc := 78) dX6_readQuestion_78 rfl ?_
  refine v_getI (pc := 79) (q := 6) zk6 lx_56 rfl tw_389 dX6_readQuestion_79 ?_
  refine v_iconst (pc := 82) 1 dX6_readQuestion_82 (by decide) ?_
  refine v_iadd (pc := 83) dX6_readQuestion_83 ?_
  refine v_putI (pc := 84) (q := 6) zk6 lx_56 rfl tw_389 rfl rfl rfl dX6_readQuestion_84 (fun M2 => ?_)
  exact v_vret (pc := 87) dX6_readQuestion_87
theorem wScript_readQuestion (l : Launch) (G : zG)  (M : zM) : zV eV l G zLX zRX 8 yX6_readQuestion cX6_readQuestion 3 none 0 [(0, .ref 56)] [] M (fScript_readQuestion  M) := by
  rw [fScript_readQuestion]
  refine v_aload_n (pc := 0) dX6_readQuestion_0 rfl ?_
  refine v_getI (pc := 1) (q := 5) zk6 lx_56 rfl tw_388 dX6_readQuestion_1 ?_
  refine v_istore_nL (pc := 4) dX6_readQuestion_4 (by decide) (fun u1_4 => ?_)
  refine v_aload_n (pc := 5) dX6_readQuestion_5 rfl ?_
  refine v_callV (pc := 6) (As := []) (cScript_readWord l G  M) zc_X6_readWord zk6 rfl lx_56 tw_918 (by decide) (Nat.le_of_ble_eq_true rfl) dX6_readQuestion_6 (fun r2 M1 => ?_)
  refine v_istore_n (pc := 9) dX6_readQuestion_9 (by decide) ?_
  refine v_iload_n (pc := 10) dX6_readQuestion_10 rfl ?_
  refine v_iconst (pc := 11) (-1) dX6_readQuestion_11 (by decide) ?_
  refine v_icmp_ne (pc := 12) 24 dX6_readQuestion_12 (by decide) ?_ ?_
  · refine v_aload_n (pc := 24) dX6_readQuestion_24 rfl ?_
    refine v_getI (pc := 25) (q := 6) zk6 lx_56 rfl tw_389 dX6_readQuestion_25 ?_
    refine v_bipush (pc := 28) 12 dX6_readQuestion_28 (by decide) ?_
    refine v_icmp_lt (pc := 30) 42 dX6_readQuestion_30 (by decide) ?_ ?_
    · refine v_aload_n (pc := 42) dX6_readQuestion_42 rfl ?_
      refine v_getR (pc := 43) (q := 7) zk6 lx_56 rfl rx_56_7 tw_391 dX6_readQuestion_43 ?_
      refine v_aload_n (pc := 46) dX6_readQuestion_46 rfl ?_
      refine v_getI (pc := 47) (q := 6) zk6 lx_56 rfl tw_389 dX6_readQuestion_47 ?_
      refine v_iload_n (pc := 50) dX6_readQuestion_50 rfl ?_
      refine v_iast (pc := 51) lx_58 dX6_readQuestion_51 (fun M3 => ?_)
      refine v_aload_n (pc := 52) dX6_readQuestion_52 rfl ?_
      refine v_getR (pc := 53) (q := 10) zk6 lx_56 rfl rx_56_10 tw_397 dX6_readQuestion_53 ?_
      refine v_aload_n (pc := 56) dX6_readQuestion_56 rfl ?_
      refine v_getI (pc := 57) (q := 6) zk6 lx_56 rfl tw_389 dX6_readQuestion_57 ?_
      refine v_iconst (pc := 60) 0 dX6_readQuestion_60 (by decide) ?_
      refine v_iast (pc := 61) lx_61 dX6_readQuestion_61 (fun M4 => ?_)
      refine v_aload_n (pc := 62) dX6_readQuestion_62 rfl ?_
      refine v_iload_n (pc := 63) dX6_readQuestion_63 rfl ?_
      refine v_iconst (pc := 64) 3 dX6_readQuestion_64 (by decide) ?_
      refine v_icmp_ne (pc := 65) 73 dX6_readQuestion_65 (by decide) ?_ ?_
      · refine v_iconst (pc := 73) 2 dX6_readQuestion_73 (by decide) ?_
        exact v_sub (wScript_readQuestion_74 l G 2 M4) rfl
      · refine v_bipush (pc := 68) 8 dX6_readQuestion_68 (by decide) ?_
        refine v_goto (pc := 70) 74 dX6_readQuestion_70 (by decide) ?_
        exact v_sub (wScript_readQuestion_74 l G 8 M4) rfl
    · refine v_aload_n (pc := 33) dX6_readQuestion_33 rfl ?_
      refine v_iconst (pc := 34) 4 dX6_readQuestion_34 (by decide) ?_
      refine v_iload_n (pc := 35) dX6_readQuestion_35 rfl ?_
      refine v_callV (pc := 36) (As := [.int 4, .int u1_4]) (cScript_fail l G 4 u1_4 M1) zc_X6_fail zk6 rfl lx_56 tw_986 (by decide) (Nat.le_of_ble_eq_true rfl) dX6_readQuestion_36 (fun _ M5 => ?_)
      skip
      refine v_goto (pc := 39) 87 dX6_readQuestion_39 (by decide) ?_
      exact v_vret (pc := 87) dX6_readQuestion_87
  · refine v_aload_n (pc := 15) dX6_readQuestion_15 rfl ?_
    refine v_iconst (pc := 16) 1 dX6_readQuestion_16 (by decide) ?_
    refine v_iload_n (pc := 17) dX6_readQuestion_17 rfl ?_
    refine v_callV (pc := 18) (As := [.int 1, .int u1_4]) (cScript_fail l G 1 u1_4 M1) zc_X6_fail zk6 rfl lx_56 tw_986 (by decide) (Nat.le_of_ble_eq_true rfl) dX6_readQuestion_18 (fun _ M6 => ?_)
    skip
    refine v_goto (pc := 21) 87 dX6_readQuestion_21 (by decide) ?_
    exact v_vret (pc := 87) dX6_readQuestion_87
theorem cScript_readQuestion (l : Launch) (G : zG)  (M : zM) : zC eV l G zLX zRX 8 yX6_readQuestion cX6_readQuestion 3 none [.ref 56] M (fScript_readQuestion  M) := zC.of (by decide) (Nat.le_of_ble_eq_true rfl) (v_sub (wScript_readQuestion l G  M) rfl)
theorem dX6_readAll_0 : decode cX6_readAll 0 = .ok (.aload_n 0, 1) := by decide +kernel
theorem dX6_readAll_1 : decode cX6_readAll 1 = .ok (.iconst 0, 1) := by decide +kernel
theorem dX6_readAll_2 : decode cX6_readAll 2 = .ok (.putfield 25, 3) := by decide +kernel
theorem dX6_readAll_5 : decode cX6_readAll 5 = .ok (.aload_n 0, 1) := by decide +kernel
theorem dX6_readAll_6 : decode cX6_readAll 6 = .ok (.iconst 0, 1) := by decide +kernel
theorem dX6_readAll_7 : decode cX6_readAll 7 = .ok (.putfield 22, 3) := by decide +kernel
theorem dX6_readAll_10 : decode cX6_readAll 10 = .ok (.aload_n 0, 1) := by decide +kernel
theorem dX6_readAll_11 : decode cX6_readAll 11 = .ok (.iconst (-1), 1) := by decide +kernel
theorem dX6_readAll_12 : decode cX6_readAll 12 = .ok (.putfield 19, 3) := by decide +kernel
theorem dX6_readAll_15 : decode cX6_readAll 15 = .ok (.aload_n 0, 1) := by decide +kernel
theorem dX6_readAll_16 : decode cX6_readAll 16 = .ok (.iconst 0, 1) := by decide +kernel
theorem dX6_readAll_17 : decode cX6_readAll 17 = .ok (.putfield 28, 3) := by decide +kernel
theorem dX6_readAll_20 : decode cX6_readAll 20 = .ok (.aload_n 0, 1) := by decide +kernel
theorem dX6_readAll_21 : decode cX6_readAll 21 = .ok (.invokevirtual 54, 3) := by decide +kernel
theorem dX6_readAll_24 : decode cX6_readAll 24 = .ok (.iconst 0, 1) := by decide +kernel
theorem dX6_readAll_25 : decode cX6_readAll 25 = .ok (.istore_n 1, 1) := by decide +kernel
theorem dX6_readAll_26 : decode cX6_readAll 26 = .ok (.iload_n 1, 1) := by decide +kernel
theorem dX6_readAll_27 : decode cX6_readAll 27 = .ok (.bipush 12, 2) := by decide +kernel
theorem dX6_readAll_29 : decode cX6_readAll 29 = .ok (.if_icmp .gt 35, 3) := by decide +kernel
theorem dX6_readAll_32 : decode cX6_readAll 32 = .ok (.aload_n 0, 1) := by decide +kernel
theorem dX6_readAll_33 : decode cX6_readAll 33 = .ok (.getfield 25, 3) := by decide +kernel
theorem dX6_readAll_36 : decode cX6_readAll 36 = .ok (.aload_n 0, 1) := by decide +kernel
theorem dX6_readAll_37 : decode cX6_readAll 37 = .ok (.getfield 15, 3) := by decide +kernel
theorem dX6_readAll_40 : decode cX6_readAll 40 = .ok (.if_icmp .ge 24, 3) := by decide +kernel
theorem dX6_readAll_43 : decode cX6_readAll 43 = .ok (.aload_n 0, 1) := by decide +kernel
theorem dX6_readAll_44 : decode cX6_readAll 44 = .ok (.getfield 22, 3) := by decide +kernel
theorem dX6_readAll_47 : decode cX6_readAll 47 = .ok (.ifCond .ne 17, 3) := by decide +kernel
theorem dX6_readAll_50 : decode cX6_readAll 50 = .ok (.aload_n 0, 1) := by decide +kernel
theorem dX6_readAll_51 : decode cX6_readAll 51 = .ok (.invokevirtual 57, 3) := by decide +kernel
theorem dX6_readAll_54 : decode cX6_readAll 54 = .ok (.aload_n 0, 1) := by decide +kernel
theorem dX6_readAll_55 : decode cX6_readAll 55 = .ok (.invokevirtual 54, 3) := by decide +kernel
theorem dX6_readAll_58 : decode cX6_readAll 58 = .ok (.iinc 1 1, 3) := by decide +kernel
theorem dX6_readAll_61 : decode cX6_readAll 61 = .ok (.goto (-35), 3) := by decide +kernel
theorem dX6_readAll_64 : decode cX6_readAll 64 = .ok (.aload_n 0, 1) := by decide +kernel
theorem dX6_readAll_65 : decode cX6_readAll 65 = .ok (.iconst 0, 1) := by decide +kernel
theorem dX6_readAll_66 : decode cX6_readAll 66 = .ok (.putfield 15, 3) := by decide +kernel
theorem dX6_readAll_69 : decode cX6_readAll 69 = .ok (.aload_n 0, 1) := by decide +kernel
theorem dX6_readAll_70 : decode cX6_readAll 70 = .ok (.getfield 22, 3) := by decide +kernel
theorem dX6_readAll_73 : decode cX6_readAll 73 = .ok (.ireturn, 1) := by decide +kernel
theorem wScript_readAll_26 (l : Launch) (G : zG) : ∀ (fuel : Nat) (v1 : Int32) (M : zM), zV eI l G zLX zRX 9 yX6_readAll cX6_readAll 2 (some .int) 26 [(0, .ref 56), (1, .int v1)] [] M (fScript_readAll_26 fuel v1 M) := by
  intro fuel
  induction fuel with
  | zero => intro v1 M; exact v_none
  | succ fuel ih =>
    intro v1 M
    rw [fScript_readAll_26]
    refine v_iload_n (pc := 26) dX6_readAll_26 rfl ?_
    refine v_bipush (pc := 27) 12 dX6_readAll_27 (by decide) ?_
    refine v_icmp_gt (pc := 29) 64 dX6_readAll_29 (by decide) ?_ ?_
    · refine v_aload_n (pc := 64) dX6_readAll_64 rfl ?_
      refine v_iconst (pc := 65) 0 dX6_readAll_65 (by decide) ?_
      refine v_putI (pc := 66) (q := 2) zk6 lx_56 rfl tw_383 rfl rfl rfl dX6_readAll_66 (fun M1 => ?_)
      refine v_aload_n (pc := 69) dX6_readAll_69 rfl ?_
      refine v_getI (pc := 70) (q := 4) zk6 lx_56 rfl tw_387 dX6_readAll_70 ?_
      exact v_iret (pc := 73) dX6_readAll_73
    · refine v_aload_n (pc := 32) dX6_readAll_32 rfl ?_
      refine v_getI (pc := 33) (q := 5) zk6 lx_56 rfl tw_388 dX6_readAll_33 ?_
      refine v_aload_n (pc := 36) dX6_readAll_36 rfl ?_
      refine v_getI (pc := 37) (q := 2) zk6 lx_56 rfl tw_383 dX6_readAll_37 ?_
      refine v_icmp_ge (pc := 40) 64 dX6_readAll_40 (by decide) ?_ ?_
      · refine v_aload_n (pc := 64) dX6_readAll_64 rfl ?_
        refine v_iconst (pc := 65) 0 dX6_readAll_65 (by decide) ?_
        refine v_putI (pc := 66) (q := 2) zk6 lx_56 rfl tw_383 rfl rfl rfl dX6_readAll_66 (fun M2 => ?_)
        refine v_aload_n (pc := 69) dX6_readAll_69 rfl ?_
        refine v_getI (pc := 70) (q := 4) zk6 lx_56 rfl tw_387 dX6_readAll_70 ?_
        exact v_iret (pc := 73) dX6_readAll_73
      · refine v_aload_n (pc := 43) dX6_readAll_43 rfl ?_
        refine v_getI (pc := 44) (q := 4) zk6 lx_56 rfl tw_387 dX6_readAll_44 ?_
        refine v_if_ne (pc := 47) 64 dX6_readAll_47 (by decide) ?_ ?_
        · refine v_aload_n (pc := 64) dX6_readAll_64 rfl ?_
          refine v_iconst (pc := 65) 0 dX6_readAll_65 (by decide) ?_
          refine v_putI (pc := 66) (q := 2) zk6 lx_56 rfl tw_383 rfl rfl rfl dX6_readAll_66 (fun M3 => ?_)
          refine v_aload_n (pc := 69) dX6_readAll_69 rfl ?_
          refine v_getI (pc := 70) (q := 4) zk6 lx_56 rfl tw_387 dX6_readAll_70 ?_
          exact v_iret (pc := 73) dX6_readAll_73
        · refine v_aload_n (pc := 50) dX6_readAll_50 rfl ?_
          refine v_callV (pc := 51) (As := []) (cScript_readQuestion l G  M) zc_X6_readQuestion zk6 rfl lx_56 tw_914 (by decide) (Nat.le_of_ble_eq_true rfl) dX6_readAll_51 (fun _ M4 => ?_)
          skip
          refine v_aload_n (pc := 54) dX6_readAll_54 rfl ?_
          refine v_callV (pc := 55) (As := []) (cScript_skipBlanks l G  M4) zc_X6_skipBlanks zk6 rfl lx_56 tw_910 (by decide) (Nat.le_of_ble_eq_true rfl) dX6_readAll_55 (fun _ M5 => ?_)
          skip
          refine v_iinc (pc := 58) 1 dX6_readAll_58 rfl (by decide) (by decide) ?_
          refine v_goto (pc := 61) 26 dX6_readAll_61 (by decide) ?_
          exact v_sub (ih (v1 + 1) M5) rfl
theorem wScript_readAll (l : Launch) (G : zG)  (M : zM) : zV eI l G zLX zRX 9 yX6_readAll cX6_readAll 2 (some .int) 0 [(0, .ref 56)] [] M (fScript_readAll  M) := by
  rw [fScript_readAll]
  refine v_aload_n (pc := 0) dX6_readAll_0 rfl ?_
  refine v_iconst (pc := 1) 0 dX6_readAll_1 (by decide) ?_
  refine v_putI (pc := 2) (q := 5) zk6 lx_56 rfl tw_388 rfl rfl rfl dX6_readAll_2 (fun M1 => ?_)
  refine v_aload_n (pc := 5) dX6_readAll_5 rfl ?_
  refine v_iconst (pc := 6) 0 dX6_readAll_6 (by decide) ?_
  refine v_putI (pc := 7) (q := 4) zk6 lx_56 rfl tw_387 rfl rfl rfl dX6_readAll_7 (fun M2 => ?_)
  refine v_aload_n (pc := 10) dX6_readAll_10 rfl ?_
  refine v_iconst (pc := 11) (-1) dX6_readAll_11 (by decide) ?_
  refine v_putI (pc := 12) (q := 3) zk6 lx_56 rfl tw_385 rfl rfl rfl dX6_readAll_12 (fun M3 => ?_)
  refine v_aload_n (pc := 15) dX6_readAll_15 rfl ?_
  refine v_iconst (pc := 16) 0 dX6_readAll_16 (by decide) ?_
  refine v_putI (pc := 17) (q := 6) zk6 lx_56 rfl tw_389 rfl rfl rfl dX6_readAll_17 (fun M4 => ?_)
  refine v_aload_n (pc := 20) dX6_readAll_20 rfl ?_
  refine v_callV (pc := 21) (As := []) (cScript_skipBlanks l G  M4) zc_X6_skipBlanks zk6 rfl lx_56 tw_910 (by decide) (Nat.le_of_ble_eq_true rfl) dX6_readAll_21 (fun _ M5 => ?_)
  skip
  refine v_iconst (pc := 24) 0 dX6_readAll_24 (by decide) ?_
  refine v_istore_n (pc := 25) dX6_readAll_25 (by decide) ?_
  exact v_sub (wScript_readAll_26 l G FU 0 M5) rfl
theorem cScript_readAll (l : Launch) (G : zG)  (M : zM) : zC eI l G zLX zRX 9 yX6_readAll cX6_readAll 2 (some .int) [.ref 56] M (fScript_readAll  M) := zC.of (by decide) (Nat.le_of_ble_eq_true rfl) (v_sub (wScript_readAll l G  M) rfl)
