theorem dX10_count_0 : decode cX10_count 0 = .ok (.aload_n 0, 1) := by decide +kernel
theorem dX10_count_1 : decode cX10_count 1 = .ok (.invokevirtual 159, 3) := by decide +kernel
theorem dX10_count_4 : decode cX10_count 4 = .ok (.iconst 0, 1) := by decide +kernel
theorem dX10_count_5 : decode cX10_count 5 = .ok (.istore_n 2, 1) := by decide +kernel
theorem dX10_count_6 : decode cX10_count 6 = .ok (.iconst 0, 1) := by decide +kernel
theorem dX10_count_7 : decode cX10_count 7 = .ok (.istore_n 3, 1) := by decide +kernel
theorem dX10_count_8 : decode cX10_count 8 = .ok (.iload_n 3, 1) := by decide +kernel
theorem dX10_count_9 : decode cX10_count 9 = .ok (.aload_n 0, 1) := by decide +kernel
theorem dX10_count_10 : decode cX10_count 10 = .ok (.getfield 99, 3) := by decide +kernel
theorem dX10_count_13 : decode cX10_count 13 = .ok (.if_icmp .ge 28, 3) := by decide +kernel
theorem dX10_count_16 : decode cX10_count 16 = .ok (.aload_n 0, 1) := by decide +kernel
theorem dX10_count_17 : decode cX10_count 17 = .ok (.iload_n 3, 1) := by decide +kernel
theorem dX10_count_18 : decode cX10_count 18 = .ok (.invokevirtual 139, 3) := by decide +kernel
theorem dX10_count_21 : decode cX10_count 21 = .ok (.iload_n 2, 1) := by decide +kernel
theorem dX10_count_22 : decode cX10_count 22 = .ok (.if_icmp .le 11, 3) := by decide +kernel
theorem dX10_count_25 : decode cX10_count 25 = .ok (.aload_n 0, 1) := by decide +kernel
theorem dX10_count_26 : decode cX10_count 26 = .ok (.iload_n 3, 1) := by decide +kernel
theorem dX10_count_27 : decode cX10_count 27 = .ok (.invokevirtual 139, 3) := by decide +kernel
theorem dX10_count_30 : decode cX10_count 30 = .ok (.goto 4, 3) := by decide +kernel
theorem dX10_count_33 : decode cX10_count 33 = .ok (.iload_n 2, 1) := by decide +kernel
theorem dX10_count_34 : decode cX10_count 34 = .ok (.istore_n 2, 1) := by decide +kernel
theorem dX10_count_35 : decode cX10_count 35 = .ok (.iinc 3 1, 3) := by decide +kernel
theorem dX10_count_38 : decode cX10_count 38 = .ok (.goto (-30), 3) := by decide +kernel
theorem dX10_count_41 : decode cX10_count 41 = .ok (.iload_n 1, 1) := by decide +kernel
theorem dX10_count_42 : decode cX10_count 42 = .ok (.tableswitch 108 0 7 #[46, 51, 56, 61, 66, 96, 101, 106], 46) := by decide +kernel
theorem dX10_count_88 : decode cX10_count 88 = .ok (.aload_n 0, 1) := by decide +kernel
theorem dX10_count_89 : decode cX10_count 89 = .ok (.getfield 99, 3) := by decide +kernel
theorem dX10_count_92 : decode cX10_count 92 = .ok (.ireturn, 1) := by decide +kernel
theorem dX10_count_93 : decode cX10_count 93 = .ok (.aload_n 0, 1) := by decide +kernel
theorem dX10_count_94 : decode cX10_count 94 = .ok (.getfield 106, 3) := by decide +kernel
theorem dX10_count_97 : decode cX10_count 97 = .ok (.ireturn, 1) := by decide +kernel
theorem dX10_count_98 : decode cX10_count 98 = .ok (.aload_n 0, 1) := by decide +kernel
theorem dX10_count_99 : decode cX10_count 99 = .ok (.getfield 129, 3) := by decide +kernel
theorem dX10_count_102 : decode cX10_count 102 = .ok (.ireturn, 1) := by decide +kernel
theorem dX10_count_103 : decode cX10_count 103 = .ok (.aload_n 0, 1) := by decide +kernel
theorem dX10_count_104 : decode cX10_count 104 = .ok (.getfield 126, 3) := by decide +kernel
theorem dX10_count_107 : decode cX10_count 107 = .ok (.ireturn, 1) := by decide +kernel
theorem dX10_count_108 : decode cX10_count 108 = .ok (.aload_n 0, 1) := by decide +kernel
theorem dX10_count_109 : decode cX10_count 109 = .ok (.getfield 58, 3) := by decide +kernel
theorem dX10_count_112 : decode cX10_count 112 = .ok (.iconst 0, 1) := by decide +kernel
theorem dX10_count_113 : decode cX10_count 113 = .ok (.baload, 1) := by decide +kernel
theorem dX10_count_114 : decode cX10_count 114 = .ok (.invokestatic 109, 3) := by decide +kernel
theorem dX10_count_117 : decode cX10_count 117 = .ok (.aload_n 0, 1) := by decide +kernel
theorem dX10_count_118 : decode cX10_count 118 = .ok (.getfield 58, 3) := by decide +kernel
theorem dX10_count_121 : decode cX10_count 121 = .ok (.iconst 1, 1) := by decide +kernel
theorem dX10_count_122 : decode cX10_count 122 = .ok (.baload, 1) := by decide +kernel
theorem dX10_count_123 : decode cX10_count 123 = .ok (.invokestatic 109, 3) := by decide +kernel
theorem dX10_count_126 : decode cX10_count 126 = .ok (.iadd, 1) := by decide +kernel
theorem dX10_count_127 : decode cX10_count 127 = .ok (.aload_n 0, 1) := by decide +kernel
theorem dX10_count_128 : decode cX10_count 128 = .ok (.getfield 58, 3) := by decide +kernel
theorem dX10_count_131 : decode cX10_count 131 = .ok (.iconst 2, 1) := by decide +kernel
theorem dX10_count_132 : decode cX10_count 132 = .ok (.baload, 1) := by decide +kernel
theorem dX10_count_133 : decode cX10_count 133 = .ok (.invokestatic 109, 3) := by decide +kernel
theorem dX10_count_136 : decode cX10_count 136 = .ok (.iadd, 1) := by decide +kernel
theorem dX10_count_137 : decode cX10_count 137 = .ok (.ireturn, 1) := by decide +kernel
theorem dX10_count_138 : decode cX10_count 138 = .ok (.aload_n 0, 1) := by decide +kernel
theorem dX10_count_139 : decode cX10_count 139 = .ok (.getfield 174, 3) := by decide +kernel
theorem dX10_count_142 : decode cX10_count 142 = .ok (.ireturn, 1) := by decide +kernel
theorem dX10_count_143 : decode cX10_count 143 = .ok (.aload_n 0, 1) := by decide +kernel
theorem dX10_count_144 : decode cX10_count 144 = .ok (.getfield 177, 3) := by decide +kernel
theorem dX10_count_147 : decode cX10_count 147 = .ok (.ireturn, 1) := by decide +kernel
theorem dX10_count_148 : decode cX10_count 148 = .ok (.iload_n 2, 1) := by decide +kernel
theorem dX10_count_149 : decode cX10_count 149 = .ok (.ireturn, 1) := by decide +kernel
theorem dX10_count_150 : decode cX10_count 150 = .ok (.sipush (-1002), 3) := by decide +kernel
theorem dX10_count_153 : decode cX10_count 153 = .ok (.ireturn, 1) := by decide +kernel
theorem wMd_count_8 (l : Launch) (G : zG) : ∀ (fuel : Nat) (v1 : Int32) (v2 : Int32) (v3 : Int32) (M : zM), zV eI l G zLY zRY 4 yX10_count cX10_count 4 (some .int) 8 [(0, .ref 0), (1, .int v1), (2, .int v2), (3, .int v3)] [] M (fMd_count_8 fuel v1 v2 v3 M) := by
  intro fuel
  induction fuel with
  | zero => intro v1 v2 v3 M; exact v_none
  | succ fuel ih =>
    intro v1 v2 v3 M
    rw [fMd_count_8]
    refine v_iload_n (pc := 8) dX10_count_8 rfl ?_
    refine v_aload_n (pc := 9) dX10_count_9 rfl ?_
    refine v_getI (pc := 10) (q := 0) zk10 ly_0 rfl tw_1026 dX10_count_10 ?_
    refine v_icmp_ge (pc := 13) 41 dX10_count_13 (by decide) ?_ ?_
    · refine v_iload_n (pc := 41) dX10_count_41 rfl ?_
      refine v_tsw (pc := 42) (dt := 150) [88, 93, 98, 103, 108, 138, 143, 148] [_, _, _, _, _, _, _, _] dX10_count_42 rfl (by decide) (by decide) (by decide) (by decide) ⟨?_, ?_, ?_, ?_, ?_, ?_, ?_, ?_, trivial⟩ ?_
      · refine v_aload_n (pc := 88) dX10_count_88 rfl ?_
        refine v_getI (pc := 89) (q := 0) zk10 ly_0 rfl tw_1026 dX10_count_89 ?_
        exact v_iret (pc := 92) dX10_count_92
      · refine v_aload_n (pc := 93) dX10_count_93 rfl ?_
        refine v_getI (pc := 94) (q := 1) zk10 ly_0 rfl tw_1027 dX10_count_94 ?_
        exact v_iret (pc := 97) dX10_count_97
      · refine v_aload_n (pc := 98) dX10_count_98 rfl ?_
        refine v_getI (pc := 99) (q := 10) zk10 ly_0 rfl tw_1036 dX10_count_99 ?_
        exact v_iret (pc := 102) dX10_count_102
      · refine v_aload_n (pc := 103) dX10_count_103 rfl ?_
        refine v_getI (pc := 104) (q := 9) zk10 ly_0 rfl tw_1035 dX10_count_104 ?_
        exact v_iret (pc := 107) dX10_count_107
      · refine v_aload_n (pc := 108) dX10_count_108 rfl ?_
        refine v_getR (pc := 109) (q := 20) zk10 ly_0 rfl ry_0_20 tw_1046 dX10_count_109 ?_
        refine v_iconst (pc := 112) 0 dX10_count_112 (by decide) ?_
        refine v_zald (pc := 113) ly_17 dX10_count_113 (fun x1 => ?_)
        refine v_callS (pc := 114) (As := [.int x1]) (cMd_bit l G x1 M) zc_X10_bit tw_1196 (by decide) (Nat.le_of_ble_eq_true rfl) dX10_count_114 (fun r3 M2 => ?_)
        refine v_aload_n (pc := 117) dX10_count_117 rfl ?_
        refine v_getR (pc := 118) (q := 20) zk10 ly_0 rfl ry_0_20 tw_1046 dX10_count_118 ?_
        refine v_iconst (pc := 121) 1 dX10_count_121 (by decide) ?_
        refine v_zald (pc := 122) ly_17 dX10_count_122 (fun x4 => ?_)
        refine v_callS (pc := 123) (As := [.int x4]) (cMd_bit l G x4 M2) zc_X10_bit tw_1196 (by decide) (Nat.le_of_ble_eq_true rfl) dX10_count_123 (fun r6 M5 => ?_)
        refine v_iadd (pc := 126) dX10_count_126 ?_
        refine v_aload_n (pc := 127) dX10_count_127 rfl ?_
        refine v_getR (pc := 128) (q := 20) zk10 ly_0 rfl ry_0_20 tw_1046 dX10_count_128 ?_
        refine v_iconst (pc := 131) 2 dX10_count_131 (by decide) ?_
        refine v_zald (pc := 132) ly_17 dX10_count_132 (fun x7 => ?_)
        refine v_callS (pc := 133) (As := [.int x7]) (cMd_bit l G x7 M5) zc_X10_bit tw_1196 (by decide) (Nat.le_of_ble_eq_true rfl) dX10_count_133 (fun r9 M8 => ?_)
        refine v_iadd (pc := 136) dX10_count_136 ?_
        exact v_iret (pc := 137) dX10_count_137
      · refine v_aload_n (pc := 138) dX10_count_138 rfl ?_
        refine v_getI (pc := 139) (q := 29) zk10 ly_0 rfl tw_1055 dX10_count_139 ?_
        exact v_iret (pc := 142) dX10_count_142
      · refine v_aload_n (pc := 143) dX10_count_143 rfl ?_
        refine v_getI (pc := 144) (q := 35) zk10 ly_0 rfl tw_1061 dX10_count_144 ?_
        exact v_iret (pc := 147) dX10_count_147
      · refine v_iload_n (pc := 148) dX10_count_148 rfl ?_
        exact v_iret (pc := 149) dX10_count_149
      · refine v_sipush (pc := 150) (-1002) dX10_count_150 (by decide) ?_
        exact v_iret (pc := 153) dX10_count_153
    · refine v_aload_n (pc := 16) dX10_count_16 rfl ?_
      refine v_iload_n (pc := 17) dX10_count_17 rfl ?_
      refine v_callV (pc := 18) (As := [.int v3]) (cMd_degree l G v3 M) zc_X10_degree zk10 rfl ly_0 tw_1192 (by decide) (Nat.le_of_ble_eq_true rfl) dX10_count_18 (fun r11 M10 => ?_)
      refine v_iload_n (pc := 21) dX10_count_21 rfl ?_
      refine v_icmp_le (pc := 22) 33 dX10_count_22 (by decide) ?_ ?_
      · refine v_iload_n (pc := 33) dX10_count_33 rfl ?_
        refine v_istore_n (pc := 34) dX10_count_34 (by decide) ?_
        refine v_iinc (pc := 35) 1 dX10_count_35 rfl (by decide) (by decide) ?_
        refine v_goto (pc := 38) 8 dX10_count_38 (by decide) ?_
        exact v_sub (ih v1 v2 (v3 + 1) M10) rfl
      · refine v_aload_n (pc := 25) dX10_count_25 rfl ?_
        refine v_iload_n (pc := 26) dX10_count_26 rfl ?_
        refine v_callV (pc := 27) (As := [.int v3]) (cMd_degree l G v3 M10) zc_X10_degree zk10 rfl ly_0 tw_1192 (by decide) (Nat.le_of_ble_eq_true rfl) dX10_count_27 (fun r13 M12 => ?_)
        refine v_goto (pc := 30) 34 dX10_count_30 (by decide) ?_
        refine v_istore_n (pc := 34) dX10_count_34 (by decide) ?_
        refine v_iinc (pc := 35) 1 dX10_count_35 rfl (by decide) (by decide) ?_
        refine v_goto (pc := 38) 8 dX10_count_38 (by decide) ?_
        exact v_sub (ih v1 r13 (v3 + 1) M12) rfl
theorem wMd_count (l : Launch) (G : zG) (v1 : Int32) (M : zM) : zV eI l G zLY zRY 4 yX10_count cX10_count 4 (some .int) 0 [(0, .ref 0), (1, .int v1)] [] M (fMd_count v1 M) := by
  rw [fMd_count]
  refine v_aload_n (pc := 0) dX10_count_0 rfl ?_
  refine v_callV (pc := 1) (As := []) (cMd_findTree l G  M) zc_X10_findTree zk10 rfl ly_0 tw_1184 (by decide) (Nat.le_of_ble_eq_true rfl) dX10_count_1 (fun _ M1 => ?_)
  skip
  refine v_iconst (pc := 4) 0 dX10_count_4 (by decide) ?_
  refine v_istore_n (pc := 5) dX10_count_5 (by decide) ?_
  refine v_iconst (pc := 6) 0 dX10_count_6 (by decide) ?_
  refine v_istore_n (pc := 7) dX10_count_7 (by decide) ?_
  exact v_sub (wMd_count_8 l G FU v1 0 0 M1) rfl
theorem cMd_count (l : Launch) (G : zG) (v1 : Int32) (M : zM) : zC eI l G zLY zRY 4 yX10_count cX10_count 4 (some .int) [.ref 0, .int v1] M (fMd_count v1 M) := zC.of (by decide) (Nat.le_of_ble_eq_true rfl) (v_sub (wMd_count l G v1 M) rfl)
theorem dX10_told_0 : decode cX10_told 0 = .ok (.aload_n 0, 1) := by decide +kernel
theorem dX10_told_1 : decode cX10_told 1 = .ok (.iload_n 1, 1) := by decide +kernel
theorem dX10_told_2 : decode cX10_told 2 = .ok (.invokevirtual 115, 3) := by decide +kernel
theorem dX10_told_5 : decode cX10_told 5 = .ok (.ifCond .eq 7, 3) := by decide +kernel
theorem dX10_told_8 : decode cX10_told 8 = .ok (.sipush (-1001), 3) := by decide +kernel
theorem dX10_told_11 : decode cX10_told 11 = .ok (.ireturn, 1) := by decide +kernel
theorem dX10_told_12 : decode cX10_told 12 = .ok (.aload_n 0, 1) := by decide +kernel
theorem dX10_told_13 : decode cX10_told 13 = .ok (.invokevirtual 159, 3) := by decide +kernel
theorem dX10_told_16 : decode cX10_told 16 = .ok (.aload_n 0, 1) := by decide +kernel
theorem dX10_told_17 : decode cX10_told 17 = .ok (.invokevirtual 156, 3) := by decide +kernel
theorem dX10_told_20 : decode cX10_told 20 = .ok (.aload_n 0, 1) := by decide +kernel
theorem dX10_told_21 : decode cX10_told 21 = .ok (.invokevirtual 150, 3) := by decide +kernel
theorem dX10_told_24 : decode cX10_told 24 = .ok (.iload_n 2, 1) := by decide +kernel
theorem dX10_told_25 : decode cX10_told 25 = .ok (.tableswitch 80 0 5 #[39, 46, 53, 59, 66, 73], 39) := by decide +kernel
theorem dX10_told_64 : decode cX10_told 64 = .ok (.aload_n 0, 1) := by decide +kernel
theorem dX10_told_65 : decode cX10_told 65 = .ok (.getfield 16, 3) := by decide +kernel
theorem dX10_told_68 : decode cX10_told 68 = .ok (.iload_n 1, 1) := by decide +kernel
theorem dX10_told_69 : decode cX10_told 69 = .ok (.iaload, 1) := by decide +kernel
theorem dX10_told_70 : decode cX10_told 70 = .ok (.ireturn, 1) := by decide +kernel
theorem dX10_told_71 : decode cX10_told 71 = .ok (.aload_n 0, 1) := by decide +kernel
theorem dX10_told_72 : decode cX10_told 72 = .ok (.getfield 19, 3) := by decide +kernel
theorem dX10_told_75 : decode cX10_told 75 = .ok (.iload_n 1, 1) := by decide +kernel
theorem dX10_told_76 : decode cX10_told 76 = .ok (.iaload, 1) := by decide +kernel
theorem dX10_told_77 : decode cX10_told 77 = .ok (.ireturn, 1) := by decide +kernel
theorem dX10_told_78 : decode cX10_told 78 = .ok (.aload_n 0, 1) := by decide +kernel
theorem dX10_told_79 : decode cX10_told 79 = .ok (.iload_n 1, 1) := by decide +kernel
theorem dX10_told_80 : decode cX10_told 80 = .ok (.invokevirtual 139, 3) := by decide +kernel
theorem dX10_told_83 : decode cX10_told 83 = .ok (.ireturn, 1) := by decide +kernel
theorem dX10_told_84 : decode cX10_told 84 = .ok (.aload_n 0, 1) := by decide +kernel
theorem dX10_told_85 : decode cX10_told 85 = .ok (.getfield 22, 3) := by decide +kernel
theorem dX10_told_88 : decode cX10_told 88 = .ok (.iload_n 1, 1) := by decide +kernel
theorem dX10_told_89 : decode cX10_told 89 = .ok (.iaload, 1) := by decide +kernel
theorem dX10_told_90 : decode cX10_told 90 = .ok (.ireturn, 1) := by decide +kernel
theorem dX10_told_91 : decode cX10_told 91 = .ok (.aload_n 0, 1) := by decide +kernel
theorem dX10_told_92 : decode cX10_told 92 = .ok (.getfield 37, 3) := by decide +kernel
theorem dX10_told_95 : decode cX10_told 95 = .ok (.iload_n 1, 1) := by decide +kernel
theorem dX10_told_96 : decode cX10_told 96 = .ok (.iaload, 1) := by decide +kernel
theorem dX10_told_97 : decode cX10_told 97 = .ok (.ireturn, 1) := by decide +kernel
theorem dX10_told_98 : decode cX10_told 98 = .ok (.aload_n 0, 1) := by decide +kernel
theorem dX10_told_99 : decode cX10_told 99 = .ok (.getfield 40, 3) := by decide +kernel
theorem dX10_told_102 : decode cX10_told 102 = .ok (.iload_n 1, 1) := by decide +kernel
theorem dX10_told_103 : decode cX10_told 103 = .ok (.iaload, 1) := by decide +kernel
theorem dX10_told_104 : decode cX10_told 104 = .ok (.ireturn, 1) := by decide +kernel
theorem dX10_told_105 : decode cX10_told 105 = .ok (.sipush (-1002), 3) := by decide +kernel
theorem dX10_told_108 : decode cX10_told 108 = .ok (.ireturn, 1) := by decide +kernel
theorem wMd_told (l : Launch) (G : zG) (v1 : Int32) (v2 : Int32) (M : zM) : zV eI l G zLY zRY 4 yX10_told cX10_told 3 (some .int) 0 [(0, .ref 0), (1, .int v1), (2, .int v2)] [] M (fMd_told v1 v2 M) := by
  rw [fMd_told]
  refine v_aload_n (pc := 0) dX10_told_0 rfl ?_
  refine v_iload_n (pc := 1) dX10_told_1 rfl ?_
  refine v_callV (pc := 2) (As := [.int v1]) (cMd_noPost l G v1 M) zc_X10_noPost zk10 rfl ly_0 tw_1164 (by decide) (Nat.le_of_ble_eq_true rfl) dX10_told_2 (fun r2 M1 => ?_)
  refine v_if_eq (pc := 5) 12 dX10_told_5 (by decide) ?_ ?_
  · refine v_aload_n (pc := 12) dX10_told_12 rfl ?_
    refine v_callV (pc := 13) (As := []) (cMd_findTree l G  M1) zc_X10_findTree zk10 rfl ly_0 tw_1184 (by decide) (Nat.le_of_ble_eq_true rfl) dX10_told_13 (fun _ M3 => ?_)
    skip
    refine v_aload_n (pc := 16) dX10_told_16 rfl ?_
    refine v_callV (pc := 17) (As := []) (cMd_findTurns l G  M3) zc_X10_findTurns zk10 rfl ly_0 tw_1203 (by decide) (Nat.le_of_ble_eq_true rfl) dX10_told_17 (fun _ M4 => ?_)
    skip
    refine v_aload_n (pc := 20) dX10_told_20 rfl ?_
    refine v_callV (pc := 21) (As := []) (cMd_findRanks l G  M4) zc_X10_findRanks zk10 rfl ly_0 tw_1207 (by decide) (Nat.le_of_ble_eq_true rfl) dX10_told_21 (fun _ M5 => ?_)
    skip
    refine v_iload_n (pc := 24) dX10_told_24 rfl ?_
    refine v_tsw (pc := 25) (dt := 105) [64, 71, 78, 84, 91, 98] [_, _, _, _, _, _] dX10_told_25 rfl (by decide) (by decide) (by decide) (by decide) ⟨?_, ?_, ?_, ?_, ?_, ?_, trivial⟩ ?_
    · refine v_aload_n (pc := 64) dX10_told_64 rfl ?_
      refine v_getR (pc := 65) (q := 4) zk10 ly_0 rfl ry_0_4 tw_1030 dX10_told_65 ?_
      refine v_iload_n (pc := 68) dX10_told_68 rfl ?_
      refine v_iald (pc := 69) ly_3 dX10_told_69 (fun x6 => ?_)
      exact v_iret (pc := 70) dX10_told_70
    · refine v_aload_n (pc := 71) dX10_told_71 rfl ?_
      refine v_getR (pc := 72) (q := 5) zk10 ly_0 rfl ry_0_5 tw_1031 dX10_told_72 ?_
      refine v_iload_n (pc := 75) dX10_told_75 rfl ?_
      refine v_iald (pc := 76) ly_4 dX10_told_76 (fun x7 => ?_)
      exact v_iret (pc := 77) dX10_told_77
    · refine v_aload_n (pc := 78) dX10_told_78 rfl ?_
      refine v_iload_n (pc := 79) dX10_told_79 rfl ?_
      refine v_callV (pc := 80) (As := [.int v1]) (cMd_degree l G v1 M5) zc_X10_degree zk10 rfl ly_0 tw_1192 (by decide) (Nat.le_of_ble_eq_true rfl) dX10_told_80 (fun r9 M8 => ?_)
      exact v_iret (pc := 83) dX10_told_83
    · refine v_aload_n (pc := 84) dX10_told_84 rfl ?_
      refine v_getR (pc := 85) (q := 6) zk10 ly_0 rfl ry_0_6 tw_1032 dX10_told_85 ?_
      refine v_iload_n (pc := 88) dX10_told_88 rfl ?_
      refine v_iald (pc := 89) ly_5 dX10_told_89 (fun x10 => ?_)
      exact v_iret (pc := 90) dX10_told_90
    · refine v_aload_n (pc := 91) dX10_told_91 rfl ?_
      refine v_getR (pc := 92) (q := 13) zk10 ly_0 rfl ry_0_13 tw_1039 dX10_told_92 ?_
      refine v_iload_n (pc := 95) dX10_told_95 rfl ?_
      refine v_iald (pc := 96) ly_10 dX10_told_96 (fun x11 => ?_)
      exact v_iret (pc := 97) dX10_told_97
    · refine v_aload_n (pc := 98) dX10_told_98 rfl ?_
      refine v_getR (pc := 99) (q := 14) zk10 ly_0 rfl ry_0_14 tw_1040 dX10_told_99 ?_
      refine v_iload_n (pc := 102) dX10_told_102 rfl ?_
      refine v_iald (pc := 103) ly_11 dX10_told_103 (fun x12 => ?_)
      exact v_iret (pc := 104) dX10_told_104
    · refine v_sipush (pc := 105) (-1002) dX10_told_105 (by decide) ?_
      exact v_iret (pc := 108) dX10_told_108
  · refine v_sipush (pc := 8) (-1001) dX10_told_8 (by decide) ?_
    exact v_iret (pc := 11) dX10_told_11
theorem cMd_told (l : Launch) (G : zG) (v1 : Int32) (v2 : Int32) (M : zM) : zC eI l G zLY zRY 4 yX10_told cX10_told 3 (some .int) [.ref 0, .int v1, .int v2] M (fMd_told v1 v2 M) := zC.of (by decide) (Nat.le_of_ble_eq_true rfl) (v_sub (wMd_told l G v1 v2 M) rfl)
theorem dX10_lineName_0 : decode cX10_lineName 0 = .ok (.aload_n 0, 1) := by decide +kernel
theorem dX10_lineName_1 : decode cX10_lineName 1 = .ok (.iload_n 1, 1) := by decide +kernel
theorem dX10_lineName_2 : decode cX10_lineName 2 = .ok (.invokevirtual 180, 3) := by decide +kernel
theorem dX10_lineName_5 : decode cX10_lineName 5 = .ok (.ifCond .ne 7, 3) := by decide +kernel
theorem dX10_lineName_8 : decode cX10_lineName 8 = .ok (.iconst 1, 1) := by decide +kernel
theorem dX10_lineName_9 : decode cX10_lineName 9 = .ok (.iload_n 1, 1) := by decide +kernel
theorem dX10_lineName_10 : decode cX10_lineName 10 = .ok (.ishl, 1) := by decide +kernel
theorem dX10_lineName_11 : decode cX10_lineName 11 = .ok (.ireturn, 1) := by decide +kernel
theorem dX10_lineName_12 : decode cX10_lineName 12 = .ok (.iconst 0, 1) := by decide +kernel
theorem dX10_lineName_13 : decode cX10_lineName 13 = .ok (.istore_n 2, 1) := by decide +kernel
theorem dX10_lineName_14 : decode cX10_lineName 14 = .ok (.iconst 0, 1) := by decide +kernel
theorem dX10_lineName_15 : decode cX10_lineName 15 = .ok (.istore_n 3, 1) := by decide +kernel
theorem dX10_lineName_16 : decode cX10_lineName 16 = .ok (.iload_n 3, 1) := by decide +kernel
theorem dX10_lineName_17 : decode cX10_lineName 17 = .ok (.aload_n 0, 1) := by decide +kernel
theorem dX10_lineName_18 : decode cX10_lineName 18 = .ok (.getfield 106, 3) := by decide +kernel
theorem dX10_lineName_21 : decode cX10_lineName 21 = .ok (.if_icmp .ge 60, 3) := by decide +kernel
theorem dX10_lineName_24 : decode cX10_lineName 24 = .ok (.aload_n 0, 1) := by decide +kernel
theorem dX10_lineName_25 : decode cX10_lineName 25 = .ok (.aload_n 0, 1) := by decide +kernel
theorem dX10_lineName_26 : decode cX10_lineName 26 = .ok (.getfield 7, 3) := by decide +kernel
theorem dX10_lineName_29 : decode cX10_lineName 29 = .ok (.iload_n 3, 1) := by decide +kernel
theorem dX10_lineName_30 : decode cX10_lineName 30 = .ok (.iaload, 1) := by decide +kernel
theorem dX10_lineName_31 : decode cX10_lineName 31 = .ok (.invokevirtual 171, 3) := by decide +kernel
theorem dX10_lineName_34 : decode cX10_lineName 34 = .ok (.aload_n 0, 1) := by decide +kernel
theorem dX10_lineName_35 : decode cX10_lineName 35 = .ok (.aload_n 0, 1) := by decide +kernel
theorem dX10_lineName_36 : decode cX10_lineName 36 = .ok (.getfield 13, 3) := by decide +kernel
theorem dX10_lineName_39 : decode cX10_lineName 39 = .ok (.iload_n 3, 1) := by decide +kernel
theorem dX10_lineName_40 : decode cX10_lineName 40 = .ok (.iaload, 1) := by decide +kernel
theorem dX10_lineName_41 : decode cX10_lineName 41 = .ok (.invokevirtual 171, 3) := by decide +kernel
theorem dX10_lineName_44 : decode cX10_lineName 44 = .ok (.ixor, 1) := by decide +kernel
theorem dX10_lineName_45 : decode cX10_lineName 45 = .ok (.istore 4, 2) := by decide +kernel
theorem dX10_lineName_47 : decode cX10_lineName 47 = .ok (.iload_n 2, 1) := by decide +kernel
theorem dX10_lineName_48 : decode cX10_lineName 48 = .ok (.aload_n 0, 1) := by decide +kernel
theorem dX10_lineName_49 : decode cX10_lineName 49 = .ok (.iload_n 3, 1) := by decide +kernel
theorem dX10_lineName_50 : decode cX10_lineName 50 = .ok (.invokevirtual 180, 3) := by decide +kernel
theorem dX10_lineName_53 : decode cX10_lineName 53 = .ok (.ifCond .ne 19, 3) := by decide +kernel
theorem dX10_lineName_56 : decode cX10_lineName 56 = .ok (.iload 4, 2) := by decide +kernel
theorem dX10_lineName_58 : decode cX10_lineName 58 = .ok (.iload_n 1, 1) := by decide +kernel
theorem dX10_lineName_59 : decode cX10_lineName 59 = .ok (.ishr, 1) := by decide +kernel
theorem dX10_lineName_60 : decode cX10_lineName 60 = .ok (.iconst 1, 1) := by decide +kernel
theorem dX10_lineName_61 : decode cX10_lineName 61 = .ok (.iand, 1) := by decide +kernel
theorem dX10_lineName_62 : decode cX10_lineName 62 = .ok (.iconst 1, 1) := by decide +kernel
theorem dX10_lineName_63 : decode cX10_lineName 63 = .ok (.if_icmp .ne 9, 3) := by decide +kernel
theorem dX10_lineName_66 : decode cX10_lineName 66 = .ok (.iconst 1, 1) := by decide +kernel
theorem dX10_lineName_67 : decode cX10_lineName 67 = .ok (.iload_n 3, 1) := by decide +kernel
theorem dX10_lineName_68 : decode cX10_lineName 68 = .ok (.ishl, 1) := by decide +kernel
theorem dX10_lineName_69 : decode cX10_lineName 69 = .ok (.goto 4, 3) := by decide +kernel
theorem dX10_lineName_72 : decode cX10_lineName 72 = .ok (.iconst 0, 1) := by decide +kernel
theorem dX10_lineName_73 : decode cX10_lineName 73 = .ok (.ior, 1) := by decide +kernel
theorem dX10_lineName_74 : decode cX10_lineName 74 = .ok (.istore_n 2, 1) := by decide +kernel
theorem dX10_lineName_75 : decode cX10_lineName 75 = .ok (.iinc 3 1, 3) := by decide +kernel
theorem dX10_lineName_78 : decode cX10_lineName 78 = .ok (.goto (-62), 3) := by decide +kernel
theorem dX10_lineName_81 : decode cX10_lineName 81 = .ok (.iload_n 2, 1) := by decide +kernel
theorem dX10_lineName_82 : decode cX10_lineName 82 = .ok (.ireturn, 1) := by decide +kernel
theorem wMd_lineName_16 (l : Launch) (G : zG) : ∀ (fuel : Nat) (v1 : Int32) (v2 : Int32) (v3 : Int32) (M : zM), zV eI l G zLY zRY 2 yX10_lineName cX10_lineName 5 (some .int) 16 [(0, .ref 0), (1, .int v1), (2, .int v2), (3, .int v3)] [] M (fMd_lineName_16 fuel v1 v2 v3 M) := by
  intro fuel
  induction fuel with
  | zero => intro v1 v2 v3 M; exact v_none
  | succ fuel ih =>
    intro v1 v2 v3 M
    rw [fMd_lineName_16]
    refine v_iload_n (pc := 16) dX10_lineName_16 rfl ?_
    refine v_aload_n (pc := 17) dX10_lineName_17 rfl ?_
    refine v_getI (pc := 18) (q := 1) zk10 ly_0 rfl tw_1027 dX10_lineName_18 ?_
    refine v_icmp_ge (pc := 21) 81 dX10_lineName_21 (by decide) ?_ ?_
    · refine v_iload_n (pc := 81) dX10_lineName_81 rfl ?_
      exact v_iret (pc := 82) dX10_lineName_82
    · refine v_aload_n (pc := 24) dX10_lineName_24 rfl ?_
      refine v_aload_n (pc := 25) dX10_lineName_25 rfl ?_
      refine v_getR (pc := 26) (q := 2) zk10 ly_0 rfl ry_0_2 tw_1028 dX10_lineName_26 ?_
      refine v_iload_n (pc := 29) dX10_lineName_29 rfl ?_
      refine v_iald (pc := 30) ly_1 dX10_lineName_30 (fun x1 => ?_)
      refine v_callV (pc := 31) (As := [.int x1]) (cMd_wayUp l G x1 M) zc_X10_wayUp zk10 rfl ly_0 tw_1223 (by decide) (Nat.le_of_ble_eq_true rfl) dX10_lineName_31 (fun r3 M2 => ?_)
      refine v_aload_n (pc := 34) dX10_lineName_34 rfl ?_
      refine v_aload_n (pc := 35) dX10_lineName_35 rfl ?_
      refine v_getR (pc := 36) (q := 3) zk10 ly_0 rfl ry_0_3 tw_1029 dX10_lineName_36 ?_
      refine v_iload_n (pc := 39) dX10_lineName_39 rfl ?_
      refine v_iald (pc := 40) ly_2 dX10_lineName_40 (fun x4 => ?_)
      refine v_callV (pc := 41) (As := [.int x4]) (cMd_wayUp l G x4 M2) zc_X10_wayUp zk10 rfl ly_0 tw_1223 (by decide) (Nat.le_of_ble_eq_true rfl) dX10_lineName_41 (fun r6 M5 => ?_)
      refine v_ixor (pc := 44) dX10_lineName_44 ?_
      refine v_istoreL (pc := 45) dX10_lineName_45 (by decide) (fun u4_45 => ?_)
      refine v_iload_n (pc := 47) dX10_lineName_47 rfl ?_
      refine v_aload_n (pc := 48) dX10_lineName_48 rfl ?_
      refine v_iload_n (pc := 49) dX10_lineName_49 rfl ?_
      refine v_callV (pc := 50) (As := [.int v3]) (cMd_isTreeLine l G v3 M5) zc_X10_isTreeLine zk10 rfl ly_0 tw_1215 (by decide) (Nat.le_of_ble_eq_true rfl) dX10_lineName_50 (fun r8 M7 => ?_)
      refine v_if_ne (pc := 53) 72 dX10_lineName_53 (by decide) ?_ ?_
      · refine v_iconst (pc := 72) 0 dX10_lineName_72 (by decide) ?_
        refine v_ior (pc := 73) dX10_lineName_73 ?_
        refine v_istore_nL (pc := 74) dX10_lineName_74 (by decide) (fun u2_74 => ?_)
        refine v_iinc (pc := 75) 1 dX10_lineName_75 rfl (by decide) (by decide) ?_
        refine v_goto (pc := 78) 16 dX10_lineName_78 (by decide) ?_
        exact v_sub (ih v1 u2_74 (v3 + 1) M7) rfl
      · refine v_iload (pc := 56) dX10_lineName_56 rfl ?_
        refine v_iload_n (pc := 58) dX10_lineName_58 rfl ?_
        refine v_ishr (pc := 59) dX10_lineName_59 ?_
        refine v_iconst (pc := 60) 1 dX10_lineName_60 (by decide) ?_
        refine v_iand (pc := 61) dX10_lineName_61 ?_
        refine v_iconst (pc := 62) 1 dX10_lineName_62 (by decide) ?_
        refine v_icmp_ne (pc := 63) 72 dX10_lineName_63 (by decide) ?_ ?_
        · refine v_iconst (pc := 72) 0 dX10_lineName_72 (by decide) ?_
          refine v_ior (pc := 73) dX10_lineName_73 ?_
          refine v_istore_nL (pc := 74) dX10_lineName_74 (by decide) (fun u2_74 => ?_)
          refine v_iinc (pc := 75) 1 dX10_lineName_75 rfl (by decide) (by decide) ?_
          refine v_goto (pc := 78) 16 dX10_lineName_78 (by decide) ?_
          exact v_sub (ih v1 u2_74 (v3 + 1) M7) rfl
        · refine v_iconst (pc := 66) 1 dX10_lineName_66 (by decide) ?_
          refine v_iload_n (pc := 67) dX10_lineName_67 rfl ?_
          refine v_ishl (pc := 68) dX10_lineName_68 ?_
          refine v_goto (pc := 69) 73 dX10_lineName_69 (by decide) ?_
          refine v_ior (pc := 73) dX10_lineName_73 ?_
          refine v_istore_nL (pc := 74) dX10_lineName_74 (by decide) (fun u2_74 => ?_)
          refine v_iinc (pc := 75) 1 dX10_lineName_75 rfl (by decide) (by decide) ?_
          refine v_goto (pc := 78) 16 dX10_lineName_78 (by decide) ?_
          exact v_sub (ih v1 u2_74 (v3 + 1) M7) rfl
theorem wMd_lineName (l : Launch) (G : zG) (v1 : Int32) (M : zM) : zV eI l G zLY zRY 2 yX10_lineName cX10_lineName 5 (some .int) 0 [(0, .ref 0), (1, .int v1)] [] M (fMd_lineName v1 M) := by
  rw [fMd_lineName]
  refine v_aload_n (pc := 0) dX10_lineName_0 rfl ?_
  refine v_iload_n (pc := 1) dX10_lineName_1 rfl ?_
  refine v_callV (pc := 2) (As := [.int v1]) (cMd_isTreeLine l G v1 M) zc_X10_isTreeLine zk10 rfl ly_0 tw_1215 (by decide) (Nat.le_of_ble_eq_true rfl) dX10_lineName_2 (fun r2 M1 => ?_)
  refine v_if_ne (pc := 5) 12 dX10_lineName_5 (by decide) ?_ ?_
  · refine v_iconst (pc := 12) 0 dX10_lineName_12 (by decide) ?_
    refine v_istore_n (pc := 13) dX10_lineName_13 (by decide) ?_
    refine v_iconst (pc := 14) 0 dX10_lineName_14 (by decide) ?_
    refine v_istore_n (pc := 15) dX10_lineName_15 (by decide) ?_
    exact v_sub (wMd_lineName_16 l G FU v1 0 0 M1) rfl
  · refine v_iconst (pc := 8) 1 dX10_lineName_8 (by decide) ?_
    refine v_iload_n (pc := 9) dX10_lineName_9 rfl ?_
    refine v_ishl (pc := 10) dX10_lineName_10 ?_
    exact v_iret (pc := 11) dX10_lineName_11
theorem cMd_lineName (l : Launch) (G : zG) (v1 : Int32) (M : zM) : zC eI l G zLY zRY 2 yX10_lineName cX10_lineName 5 (some .int) [.ref 0, .int v1] M (fMd_lineName v1 M) := zC.of (by decide) (Nat.le_of_ble_eq_true rfl) (v_sub (wMd_lineName l G v1 M) rfl)
theorem dX10_lines_0 : decode cX10_lines 0 = .ok (.aload_n 0, 1) := by decide +kernel
theorem dX10_lines_1 : decode cX10_lines 1 = .ok (.iload_n 1, 1) := by decide +kernel
theorem dX10_lines_2 : decode cX10_lines 2 = .ok (.invokevirtual 123, 3) := by decide +kernel
theorem dX10_lines_5 : decode cX10_lines 5 = .ok (.ifCond .eq 7, 3) := by decide +kernel
theorem dX10_lines_8 : decode cX10_lines 8 = .ok (.sipush (-1001), 3) := by decide +kernel
theorem dX10_lines_11 : decode cX10_lines 11 = .ok (.ireturn, 1) := by decide +kernel
theorem dX10_lines_12 : decode cX10_lines 12 = .ok (.aload_n 0, 1) := by decide +kernel
theorem dX10_lines_13 : decode cX10_lines 13 = .ok (.invokevirtual 159, 3) := by decide +kernel
theorem dX10_lines_16 : decode cX10_lines 16 = .ok (.iload_n 2, 1) := by decide +kernel
theorem dX10_lines_17 : decode cX10_lines 17 = .ok (.tableswitch 60 0 3 #[31, 38, 45, 54], 31) := by decide +kernel
theorem dX10_lines_48 : decode cX10_lines 48 = .ok (.aload_n 0, 1) := by decide +kernel
theorem dX10_lines_49 : decode cX10_lines 49 = .ok (.getfield 7, 3) := by decide +kernel
theorem dX10_lines_52 : decode cX10_lines 52 = .ok (.iload_n 1, 1) := by decide +kernel
theorem dX10_lines_53 : decode cX10_lines 53 = .ok (.iaload, 1) := by decide +kernel
theorem dX10_lines_54 : decode cX10_lines 54 = .ok (.ireturn, 1) := by decide +kernel
theorem dX10_lines_55 : decode cX10_lines 55 = .ok (.aload_n 0, 1) := by decide +kernel
theorem dX10_lines_56 : decode cX10_lines 56 = .ok (.getfield 13, 3) := by decide +kernel
theorem dX10_lines_59 : decode cX10_lines 59 = .ok (.iload_n 1, 1) := by decide +kernel
theorem dX10_lines_60 : decode cX10_lines 60 = .ok (.iaload, 1) := by decide +kernel
theorem dX10_lines_61 : decode cX10_lines 61 = .ok (.ireturn, 1) := by decide +kernel
theorem dX10_lines_62 : decode cX10_lines 62 = .ok (.aload_n 0, 1) := by decide +kernel
theorem dX10_lines_63 : decode cX10_lines 63 = .ok (.iload_n 1, 1) := by decide +kernel
theorem dX10_lines_64 : decode cX10_lines 64 = .ok (.invokevirtual 180, 3) := by decide +kernel
theorem dX10_lines_67 : decode cX10_lines 67 = .ok (.invokestatic 109, 3) := by decide +kernel
theorem dX10_lines_70 : decode cX10_lines 70 = .ok (.ireturn, 1) := by decide +kernel
theorem dX10_lines_71 : decode cX10_lines 71 = .ok (.aload_n 0, 1) := by decide +kernel
theorem dX10_lines_72 : decode cX10_lines 72 = .ok (.iload_n 1, 1) := by decide +kernel
theorem dX10_lines_73 : decode cX10_lines 73 = .ok (.invokevirtual 183, 3) := by decide +kernel
theorem dX10_lines_76 : decode cX10_lines 76 = .ok (.ireturn, 1) := by decide +kernel
theorem dX10_lines_77 : decode cX10_lines 77 = .ok (.sipush (-1002), 3) := by decide +kernel
theorem dX10_lines_80 : decode cX10_lines 80 = .ok (.ireturn, 1) := by decide +kernel
theorem wMd_lines (l : Launch) (G : zG) (v1 : Int32) (v2 : Int32) (M : zM) : zV eI l G zLY zRY 4 yX10_lines cX10_lines 3 (some .int) 0 [(0, .ref 0), (1, .int v1), (2, .int v2)] [] M (fMd_lines v1 v2 M) := by
  rw [fMd_lines]
  refine v_aload_n (pc := 0) dX10_lines_0 rfl ?_
  refine v_iload_n (pc := 1) dX10_lines_1 rfl ?_
  refine v_callV (pc := 2) (As := [.int v1]) (cMd_noLine l G v1 M) zc_X10_noLine zk10 rfl ly_0 tw_1176 (by decide) (Nat.le_of_ble_eq_true rfl) dX10_lines_2 (fun r2 M1 => ?_)
  refine v_if_eq (pc := 5) 12 dX10_lines_5 (by decide) ?_ ?_
  · refine v_aload_n (pc := 12) dX10_lines_12 rfl ?_
    refine v_callV (pc := 13) (As := []) (cMd_findTree l G  M1) zc_X10_findTree zk10 rfl ly_0 tw_1184 (by decide) (Nat.le_of_ble_eq_true rfl) dX10_lines_13 (fun _ M3 => ?_)
    skip
    refine v_iload_n (pc := 16) dX10_lines_16 rfl ?_
    refine v_tsw (pc := 17) (dt := 77) [48, 55, 62, 71] [_, _, _, _] dX10_lines_17 rfl (by decide) (by decide) (by decide) (by decide) ⟨?_, ?_, ?_, ?_, trivial⟩ ?_
    · refine v_aload_n (pc := 48) dX10_lines_48 rfl ?_
      refine v_getR (pc := 49) (q := 2) zk10 ly_0 rfl ry_0_2 tw_1028 dX10_lines_49 ?_
      refine v_iload_n (pc := 52) dX10_lines_52 rfl ?_
      refine v_iald (pc := 53) ly_1 dX10_lines_53 (fun x4 => ?_)
      exact v_iret (pc := 54) dX10_lines_54
    · refine v_aload_n (pc := 55) dX10_lines_55 rfl ?_
      refine v_getR (pc := 56) (q := 3) zk10 ly_0 rfl ry_0_3 tw_1029 dX10_lines_56 ?_
      refine v_iload_n (pc := 59) dX10_lines_59 rfl ?_
      refine v_iald (pc := 60) ly_2 dX10_lines_60 (fun x5 => ?_)
      exact v_iret (pc := 61) dX10_lines_61
    · refine v_aload_n (pc := 62) dX10_lines_62 rfl ?_
      refine v_iload_n (pc := 63) dX10_lines_63 rfl ?_
      refine v_callV (pc := 64) (As := [.int v1]) (cMd_isTreeLine l G v1 M3) zc_X10_isTreeLine zk10 rfl ly_0 tw_1215 (by decide) (Nat.le_of_ble_eq_true rfl) dX10_lines_64 (fun r7 M6 => ?_)
      refine v_callS (pc := 67) (As := [.int r7]) (cMd_bit l G r7 M6) zc_X10_bit tw_1196 (by decide) (Nat.le_of_ble_eq_true rfl) dX10_lines_67 (fun r9 M8 => ?_)
      exact v_iret (pc := 70) dX10_lines_70
    · refine v_aload_n (pc := 71) dX10_lines_71 rfl ?_
      refine v_iload_n (pc := 72) dX10_lines_72 rfl ?_
      refine v_callV (pc := 73) (As := [.int v1]) (cMd_lineName l G v1 M3) zc_X10_lineName zk10 rfl ly_0 tw_1219 (by decide) (Nat.le_of_ble_eq_true rfl) dX10_lines_73 (fun r11 M10 => ?_)
      exact v_iret (pc := 76) dX10_lines_76
    · refine v_sipush (pc := 77) (-1002) dX10_lines_77 (by decide) ?_
      exact v_iret (pc := 80) dX10_lines_80
  · refine v_sipush (pc := 8) (-1001) dX10_lines_8 (by decide) ?_
    exact v_iret (pc := 11) dX10_lines_11
theorem cMd_lines (l : Launch) (G : zG) (v1 : Int32) (v2 : Int32) (M : zM) : zC eI l G zLY zRY 4 yX10_lines cX10_lines 3 (some .int) [.ref 0, .int v1, .int v2] M (fMd_lines v1 v2 M) := zC.of (by decide) (Nat.le_of_ble_eq_true rfl) (v_sub (wMd_lines l G v1 v2 M) rfl)
theorem dX10_name_0 : decode cX10_name 0 = .ok (.aload_n 0, 1) := by decide +kernel
theorem dX10_name_1 : decode cX10_name 1 = .ok (.iload_n 2, 1) := by decide +kernel
theorem dX10_name_2 : decode cX10_name 2 = .ok (.invokevirtual 115, 3) := by decide +kernel
theorem dX10_name_5 : decode cX10_name 5 = .ok (.ifCond .eq 7, 3) := by decide +kernel
theorem dX10_name_8 : decode cX10_name 8 = .ok (.sipush (-1001), 3) := by decide +kernel
theorem dX10_name_11 : decode cX10_name 11 = .ok (.ireturn, 1) := by decide +kernel
theorem dX10_name_12 : decode cX10_name 12 = .ok (.iload_n 1, 1) := by decide +kernel
theorem dX10_name_13 : decode cX10_name 13 = .ok (.i2l, 1) := by decide +kernel
theorem dX10_name_14 : decode cX10_name 14 = .ok (.lconst 0, 1) := by decide +kernel
theorem dX10_name_15 : decode cX10_name 15 = .ok (.ldc2_w 186, 3) := by decide +kernel
theorem dX10_name_18 : decode cX10_name 18 = .ok (.invokestatic 102, 3) := by decide +kernel
theorem dX10_name_21 : decode cX10_name 21 = .ok (.ifCond .ne 7, 3) := by decide +kernel
theorem dX10_name_24 : decode cX10_name 24 = .ok (.sipush (-1002), 3) := by decide +kernel
theorem dX10_name_27 : decode cX10_name 27 = .ok (.ireturn, 1) := by decide +kernel
theorem dX10_name_28 : decode cX10_name 28 = .ok (.aload_n 0, 1) := by decide +kernel
theorem dX10_name_29 : decode cX10_name 29 = .ok (.iload_n 1, 1) := by decide +kernel
theorem dX10_name_30 : decode cX10_name 30 = .ok (.invokevirtual 188, 3) := by decide +kernel
theorem dX10_name_33 : decode cX10_name 33 = .ok (.iload_n 3, 1) := by decide +kernel
theorem dX10_name_34 : decode cX10_name 34 = .ok (.iconst (-1), 1) := by decide +kernel
theorem dX10_name_35 : decode cX10_name 35 = .ok (.if_icmp .ne 12, 3) := by decide +kernel
theorem dX10_name_38 : decode cX10_name 38 = .ok (.aload_n 0, 1) := by decide +kernel
theorem dX10_name_39 : decode cX10_name 39 = .ok (.getfield 43, 3) := by decide +kernel
theorem dX10_name_42 : decode cX10_name 42 = .ok (.iload_n 2, 1) := by decide +kernel
theorem dX10_name_43 : decode cX10_name 43 = .ok (.iaload, 1) := by decide +kernel
theorem dX10_name_44 : decode cX10_name 44 = .ok (.goto 36, 3) := by decide +kernel
theorem dX10_name_47 : decode cX10_name 47 = .ok (.iload_n 3, 1) := by decide +kernel
theorem dX10_name_48 : decode cX10_name 48 = .ok (.i2l, 1) := by decide +kernel
theorem dX10_name_49 : decode cX10_name 49 = .ok (.lconst 0, 1) := by decide +kernel
theorem dX10_name_50 : decode cX10_name 50 = .ok (.aload_n 0, 1) := by decide +kernel
theorem dX10_name_51 : decode cX10_name 51 = .ok (.getfield 43, 3) := by decide +kernel
theorem dX10_name_54 : decode cX10_name 54 = .ok (.iload_n 2, 1) := by decide +kernel
theorem dX10_name_55 : decode cX10_name 55 = .ok (.iaload, 1) := by decide +kernel
theorem dX10_name_56 : decode cX10_name 56 = .ok (.iconst 1, 1) := by decide +kernel
theorem dX10_name_57 : decode cX10_name 57 = .ok (.isub, 1) := by decide +kernel
theorem dX10_name_58 : decode cX10_name 58 = .ok (.i2l, 1) := by decide +kernel
theorem dX10_name_59 : decode cX10_name 59 = .ok (.invokestatic 102, 3) := by decide +kernel
theorem dX10_name_62 : decode cX10_name 62 = .ok (.ifCond .eq 17, 3) := by decide +kernel
theorem dX10_name_65 : decode cX10_name 65 = .ok (.aload_n 0, 1) := by decide +kernel
theorem dX10_name_66 : decode cX10_name 66 = .ok (.getfield 46, 3) := by decide +kernel
theorem dX10_name_69 : decode cX10_name 69 = .ok (.bipush 26, 2) := by decide +kernel
theorem dX10_name_71 : decode cX10_name 71 = .ok (.iload_n 2, 1) := by decide +kernel
theorem dX10_name_72 : decode cX10_name 72 = .ok (.imul, 1) := by decide +kernel
theorem dX10_name_73 : decode cX10_name 73 = .ok (.iload_n 3, 1) := by decide +kernel
theorem dX10_name_74 : decode cX10_name 74 = .ok (.iadd, 1) := by decide +kernel
theorem dX10_name_75 : decode cX10_name 75 = .ok (.iaload, 1) := by decide +kernel
theorem dX10_name_76 : decode cX10_name 76 = .ok (.goto 4, 3) := by decide +kernel
theorem dX10_name_79 : decode cX10_name 79 = .ok (.iconst (-1), 1) := by decide +kernel
theorem dX10_name_80 : decode cX10_name 80 = .ok (.ireturn, 1) := by decide +kernel
theorem wMd_name (l : Launch) (G : zG) (v1 : Int32) (v2 : Int32) (v3 : Int32) (M : zM) : zV eI l G zLY zRY 6 yX10_name cX10_name 4 (some .int) 0 [(0, .ref 0), (1, .int v1), (2, .int v2), (3, .int v3)] [] M (fMd_name v1 v2 v3 M) := by
  rw [fMd_name]
  refine v_aload_n (pc := 0) dX10_name_0 rfl ?_
  refine v_iload_n (pc := 1) dX10_name_1 rfl ?_
  refine v_callV (pc := 2) (As := [.int v2]) (cMd_noPost l G v2 M) zc_X10_noPost zk10 rfl ly_0 tw_1164 (by decide) (Nat.le_of_ble_eq_true rfl) dX10_name_2 (fun r2 M1 => ?_)
  refine v_if_eq (pc := 5) 12 dX10_name_5 (by decide) ?_ ?_
  · refine v_iload_n (pc := 12) dX10_name_12 rfl ?_
    refine v_i2l (pc := 13) dX10_name_13 ?_
    refine v_lconst (pc := 14) 0 dX10_name_14 (by decide) ?_
    refine v_ldc2 (pc := 15) 3 tw_1231 dX10_name_15 ?_
    refine v_callS (pc := 18) (As := [.long v1.toInt64, .long 0, .long 3]) (cMd_in l G v1.toInt64 0 3 M1) zc_X10_in tw_1153 (by decide) (Nat.le_of_ble_eq_true rfl) dX10_name_18 (fun r4 M3 => ?_)
    refine v_if_ne (pc := 21) 28 dX10_name_21 (by decide) ?_ ?_
    · refine v_aload_n (pc := 28) dX10_name_28 rfl ?_
      refine v_iload_n (pc := 29) dX10_name_29 rfl ?_
      refine v_callV (pc := 30) (As := [.int v1]) (cMd_findNames l G v1 M3) zc_X10_findNames zk10 rfl ly_0 tw_1232 (by decide) (Nat.le_of_ble_eq_true rfl) dX10_name_30 (fun _ M5 => ?_)
      skip
      refine v_iload_n (pc := 33) dX10_name_33 rfl ?_
      refine v_iconst (pc := 34) (-1) dX10_name_34 (by decide) ?_
      refine v_icmp_ne (pc := 35) 47 dX10_name_35 (by decide) ?_ ?_
      · refine v_iload_n (pc := 47) dX10_name_47 rfl ?_
        refine v_i2l (pc := 48) dX10_name_48 ?_
        refine v_lconst (pc := 49) 0 dX10_name_49 (by decide) ?_
        refine v_aload_n (pc := 50) dX10_name_50 rfl ?_
        refine v_getR (pc := 51) (q := 15) zk10 ly_0 rfl ry_0_15 tw_1041 dX10_name_51 ?_
        refine v_iload_n (pc := 54) dX10_name_54 rfl ?_
        refine v_iald (pc := 55) ly_12 dX10_name_55 (fun x6 => ?_)
        refine v_iconst (pc := 56) 1 dX10_name_56 (by decide) ?_
        refine v_isub (pc := 57) dX10_name_57 ?_
        refine v_i2l (pc := 58) dX10_name_58 ?_
        refine v_callS (pc := 59) (As := [.long v3.toInt64, .long 0, .long ((x6 - 1).toInt64)]) (cMd_in l G v3.toInt64 0 ((x6 - 1).toInt64) M5) zc_X10_in tw_1153 (by decide) (Nat.le_of_ble_eq_true rfl) dX10_name_59 (fun r8 M7 => ?_)
        refine v_if_eq (pc := 62) 79 dX10_name_62 (by decide) ?_ ?_
        · refine v_iconst (pc := 79) (-1) dX10_name_79 (by decide) ?_
          exact v_iret (pc := 80) dX10_name_80
        · refine v_aload_n (pc := 65) dX10_name_65 rfl ?_
          refine v_getR (pc := 66) (q := 16) zk10 ly_0 rfl ry_0_16 tw_1042 dX10_name_66 ?_
          refine v_bipush (pc := 69) 26 dX10_name_69 (by decide) ?_
          refine v_iload_n (pc := 71) dX10_name_71 rfl ?_
          refine v_imul (pc := 72) dX10_name_72 ?_
          refine v_iload_n (pc := 73) dX10_name_73 rfl ?_
          refine v_iadd (pc := 74) dX10_name_74 ?_
          refine v_iald (pc := 75) ly_13 dX10_name_75 (fun x9 => ?_)
          refine v_goto (pc := 76) 80 dX10_name_76 (by decide) ?_
          exact v_iret (pc := 80) dX10_name_80
      · refine v_aload_n (pc := 38) dX10_name_38 rfl ?_
        refine v_getR (pc := 39) (q := 15) zk10 ly_0 rfl ry_0_15 tw_1041 dX10_name_39 ?_
        refine v_iload_n (pc := 42) dX10_name_42 rfl ?_
        refine v_iald (pc := 43) ly_12 dX10_name_43 (fun x10 => ?_)
        refine v_goto (pc := 44) 80 dX10_name_44 (by decide) ?_
        exact v_iret (pc := 80) dX10_name_80
    · refine v_sipush (pc := 24) (-1002) dX10_name_24 (by decide) ?_
      exact v_iret (pc := 27) dX10_name_27
  · refine v_sipush (pc := 8) (-1001) dX10_name_8 (by decide) ?_
    exact v_iret (pc := 11) dX10_name_11
theorem cMd_name (l : Launch) (G : zG) (v1 : Int32) (v2 : Int32) (v3 : Int32) (M : zM) : zC eI l G zLY zRY 6 yX10_name cX10_name 4 (some .int) [.ref 0, .int v1, .int v2, .int v3] M (fMd_name v1 v2 v3 M) := zC.of (by decide) (Nat.le_of_ble_eq_true rfl) (v_sub (wMd_name l G v1 v2 v3 M) rfl)
theorem dX10_bitsOf_0 : decode cX10_bitsOf 0 = .ok (.iconst 1, 1) := by decide +kernel
theorem dX10_bitsOf_1 : decode cX10_bitsOf 1 = .ok (.istore_n 3, 1) := by decide +kernel
theorem dX10_bitsOf_2 : decode cX10_bitsOf 2 = .ok (.aload_n 0, 1) := by decide +kernel
theorem dX10_bitsOf_3 : decode cX10_bitsOf 3 = .ok (.getfield 99, 3) := by decide +kernel
theorem dX10_bitsOf_6 : decode cX10_bitsOf 6 = .ok (.iconst 1, 1) := by decide +kernel
theorem dX10_bitsOf_7 : decode cX10_bitsOf 7 = .ok (.isub, 1) := by decide +kernel
theorem dX10_bitsOf_8 : decode cX10_bitsOf 8 = .ok (.iload_n 3, 1) := by decide +kernel
theorem dX10_bitsOf_9 : decode cX10_bitsOf 9 = .ok (.ishr, 1) := by decide +kernel
theorem dX10_bitsOf_10 : decode cX10_bitsOf 10 = .ok (.ifCond .le 9, 3) := by decide +kernel
theorem dX10_bitsOf_13 : decode cX10_bitsOf 13 = .ok (.iinc 3 1, 3) := by decide +kernel
theorem dX10_bitsOf_16 : decode cX10_bitsOf 16 = .ok (.goto (-14), 3) := by decide +kernel
theorem dX10_bitsOf_19 : decode cX10_bitsOf 19 = .ok (.iload_n 1, 1) := by decide +kernel
theorem dX10_bitsOf_20 : decode cX10_bitsOf 20 = .ok (.iconst 3, 1) := by decide +kernel
theorem dX10_bitsOf_21 : decode cX10_bitsOf 21 = .ok (.if_icmp .ne 10, 3) := by decide +kernel
theorem dX10_bitsOf_24 : decode cX10_bitsOf 24 = .ok (.aload_n 0, 1) := by decide +kernel
theorem dX10_bitsOf_25 : decode cX10_bitsOf 25 = .ok (.getfield 129, 3) := by decide +kernel
theorem dX10_bitsOf_28 : decode cX10_bitsOf 28 = .ok (.goto 11, 3) := by decide +kernel
theorem dX10_bitsOf_31 : decode cX10_bitsOf 31 = .ok (.iload_n 3, 1) := by decide +kernel
theorem dX10_bitsOf_32 : decode cX10_bitsOf 32 = .ok (.aload_n 0, 1) := by decide +kernel
theorem dX10_bitsOf_33 : decode cX10_bitsOf 33 = .ok (.getfield 43, 3) := by decide +kernel
theorem dX10_bitsOf_36 : decode cX10_bitsOf 36 = .ok (.iload_n 2, 1) := by decide +kernel
theorem dX10_bitsOf_37 : decode cX10_bitsOf 37 = .ok (.iaload, 1) := by decide +kernel
theorem dX10_bitsOf_38 : decode cX10_bitsOf 38 = .ok (.imul, 1) := by decide +kernel
theorem dX10_bitsOf_39 : decode cX10_bitsOf 39 = .ok (.ireturn, 1) := by decide +kernel
theorem wMd_bitsOf_2 (l : Launch) (G : zG) : ∀ (fuel : Nat) (v1 : Int32) (v2 : Int32) (v3 : Int32) (M : zM), zV eI l G zLY zRY 1 yX10_bitsOf cX10_bitsOf 4 (some .int) 2 [(0, .ref 0), (1, .int v1), (2, .int v2), (3, .int v3)] [] M (fMd_bitsOf_2 fuel v1 v2 v3 M) := by
  intro fuel
  induction fuel with
  | zero => intro v1 v2 v3 M; exact v_none
  | succ fuel ih =>
    intro v1 v2 v3 M
    rw [fMd_bitsOf_2]
    refine v_aload_n (pc := 2) dX10_bitsOf_2 rfl ?_
    refine v_getI (pc := 3) (q := 0) zk10 ly_0 rfl tw_1026 dX10_bitsOf_3 ?_
    refine v_iconst (pc := 6) 1 dX10_bitsOf_6 (by decide) ?_
    refine v_isub (pc := 7) dX10_bitsOf_7 ?_
    refine v_iload_n (pc := 8) dX10_bitsOf_8 rfl ?_
    refine v_ishr (pc := 9) dX10_bitsOf_9 ?_
    refine v_if_le (pc := 10) 19 dX10_bitsOf_10 (by decide) ?_ ?_
    · refine v_iload_n (pc := 19) dX10_bitsOf_19 rfl ?_
      refine v_iconst (pc := 20) 3 dX10_bitsOf_20 (by decide) ?_
      refine v_icmp_ne (pc := 21) 31 dX10_bitsOf_21 (by decide) ?_ ?_
      · refine v_iload_n (pc := 31) dX10_bitsOf_31 rfl ?_
        refine v_aload_n (pc := 32) dX10_bitsOf_32 rfl ?_
        refine v_getR (pc := 33) (q := 15) zk10 ly_0 rfl ry_0_15 tw_1041 dX10_bitsOf_33 ?_
        refine v_iload_n (pc := 36) dX10_bitsOf_36 rfl ?_
        refine v_iald (pc := 37) ly_12 dX10_bitsOf_37 (fun x1 => ?_)
        refine v_imul (pc := 38) dX10_bitsOf_38 ?_
        exact v_iret (pc := 39) dX10_bitsOf_39
      · refine v_aload_n (pc := 24) dX10_bitsOf_24 rfl ?_
        refine v_getI (pc := 25) (q := 10) zk10 ly_0 rfl tw_1036 dX10_bitsOf_25 ?_
        refine v_goto (pc := 28) 39 dX10_bitsOf_28 (by decide) ?_
        exact v_iret (pc := 39) dX10_bitsOf_39
    · refine v_iinc (pc := 13) 1 dX10_bitsOf_13 rfl (by decide) (by decide) ?_
      refine v_goto (pc := 16) 2 dX10_bitsOf_16 (by decide) ?_
      exact v_sub (ih v1 v2 (v3 + 1) M) rfl
theorem wMd_bitsOf (l : Launch) (G : zG) (v1 : Int32) (v2 : Int32) (M : zM) : zV eI l G zLY zRY 1 yX10_bitsOf cX10_bitsOf 4 (some .int) 0 [(0, .ref 0), (1, .int v1), (2, .int v2)] [] M (fMd_bitsOf v1 v2 M) := by
  rw [fMd_bitsOf]
  refine v_iconst (pc := 0) 1 dX10_bitsOf_0 (by decide) ?_
  refine v_istore_n (pc := 1) dX10_bitsOf_1 (by decide) ?_
  exact v_sub (wMd_bitsOf_2 l G FU v1 v2 1 M) rfl
theorem cMd_bitsOf (l : Launch) (G : zG) (v1 : Int32) (v2 : Int32) (M : zM) : zC eI l G zLY zRY 1 yX10_bitsOf cX10_bitsOf 4 (some .int) [.ref 0, .int v1, .int v2] M (fMd_bitsOf v1 v2 M) := zC.of (by decide) (Nat.le_of_ble_eq_true rfl) (v_sub (wMd_bitsOf l G v1 v2 M) rfl)
theorem dX10_bits_0 : decode cX10_bits 0 = .ok (.iload_n 1, 1) := by decide +kernel
theorem dX10_bits_1 : decode cX10_bits 1 = .ok (.i2l, 1) := by decide +kernel
theorem dX10_bits_2 : decode cX10_bits 2 = .ok (.lconst 0, 1) := by decide +kernel
theorem dX10_bits_3 : decode cX10_bits 3 = .ok (.ldc2_w 186, 3) := by decide +kernel
theorem dX10_bits_6 : decode cX10_bits 6 = .ok (.invokestatic 102, 3) := by decide +kernel
theorem dX10_bits_9 : decode cX10_bits 9 = .ok (.ifCond .eq 15, 3) := by decide +kernel
theorem dX10_bits_12 : decode cX10_bits 12 = .ok (.iload_n 2, 1) := by decide +kernel
theorem dX10_bits_13 : decode cX10_bits 13 = .ok (.i2l, 1) := by decide +kernel
theorem dX10_bits_14 : decode cX10_bits 14 = .ok (.lconst 0, 1) := by decide +kernel
theorem dX10_bits_15 : decode cX10_bits 15 = .ok (.ldc2_w 191, 3) := by decide +kernel
theorem dX10_bits_18 : decode cX10_bits 18 = .ok (.invokestatic 102, 3) := by decide +kernel
theorem dX10_bits_21 : decode cX10_bits 21 = .ok (.ifCond .ne 7, 3) := by decide +kernel
theorem dX10_bits_24 : decode cX10_bits 24 = .ok (.sipush (-1002), 3) := by decide +kernel
theorem dX10_bits_27 : decode cX10_bits 27 = .ok (.ireturn, 1) := by decide +kernel
theorem dX10_bits_28 : decode cX10_bits 28 = .ok (.aload_n 0, 1) := by decide +kernel
theorem dX10_bits_29 : decode cX10_bits 29 = .ok (.iload_n 1, 1) := by decide +kernel
theorem dX10_bits_30 : decode cX10_bits 30 = .ok (.invokevirtual 188, 3) := by decide +kernel
theorem dX10_bits_33 : decode cX10_bits 33 = .ok (.iconst 0, 1) := by decide +kernel
theorem dX10_bits_34 : decode cX10_bits 34 = .ok (.istore_n 3, 1) := by decide +kernel
theorem dX10_bits_35 : decode cX10_bits 35 = .ok (.iconst 0, 1) := by decide +kernel
theorem dX10_bits_36 : decode cX10_bits 36 = .ok (.istore 4, 2) := by decide +kernel
theorem dX10_bits_38 : decode cX10_bits 38 = .ok (.iconst 0, 1) := by decide +kernel
theorem dX10_bits_39 : decode cX10_bits 39 = .ok (.istore 5, 2) := by decide +kernel
theorem dX10_bits_41 : decode cX10_bits 41 = .ok (.iload 5, 2) := by decide +kernel
theorem dX10_bits_43 : decode cX10_bits 43 = .ok (.aload_n 0, 1) := by decide +kernel
theorem dX10_bits_44 : decode cX10_bits 44 = .ok (.getfield 99, 3) := by decide +kernel
theorem dX10_bits_47 : decode cX10_bits 47 = .ok (.if_icmp .ge 45, 3) := by decide +kernel
theorem dX10_bits_50 : decode cX10_bits 50 = .ok (.iload_n 3, 1) := by decide +kernel
theorem dX10_bits_51 : decode cX10_bits 51 = .ok (.aload_n 0, 1) := by decide +kernel
theorem dX10_bits_52 : decode cX10_bits 52 = .ok (.iload_n 1, 1) := by decide +kernel
theorem dX10_bits_53 : decode cX10_bits 53 = .ok (.iload 5, 2) := by decide +kernel
theorem dX10_bits_55 : decode cX10_bits 55 = .ok (.invokevirtual 193, 3) := by decide +kernel
theorem dX10_bits_58 : decode cX10_bits 58 = .ok (.iadd, 1) := by decide +kernel
theorem dX10_bits_59 : decode cX10_bits 59 = .ok (.istore_n 3, 1) := by decide +kernel
theorem dX10_bits_60 : decode cX10_bits 60 = .ok (.aload_n 0, 1) := by decide +kernel
theorem dX10_bits_61 : decode cX10_bits 61 = .ok (.iload_n 1, 1) := by decide +kernel
theorem dX10_bits_62 : decode cX10_bits 62 = .ok (.iload 5, 2) := by decide +kernel
theorem dX10_bits_64 : decode cX10_bits 64 = .ok (.invokevirtual 193, 3) := by decide +kernel
theorem dX10_bits_67 : decode cX10_bits 67 = .ok (.aload_n 0, 1) := by decide +kernel
theorem dX10_bits_68 : decode cX10_bits 68 = .ok (.iload_n 1, 1) := by decide +kernel
theorem dX10_bits_69 : decode cX10_bits 69 = .ok (.iload 4, 2) := by decide +kernel
theorem dX10_bits_71 : decode cX10_bits 71 = .ok (.invokevirtual 193, 3) := by decide +kernel
theorem dX10_bits_74 : decode cX10_bits 74 = .ok (.if_icmp .le 8, 3) := by decide +kernel
theorem dX10_bits_77 : decode cX10_bits 77 = .ok (.iload 5, 2) := by decide +kernel
theorem dX10_bits_79 : decode cX10_bits 79 = .ok (.goto 5, 3) := by decide +kernel
theorem dX10_bits_82 : decode cX10_bits 82 = .ok (.iload 4, 2) := by decide +kernel
theorem dX10_bits_84 : decode cX10_bits 84 = .ok (.istore 4, 2) := by decide +kernel
theorem dX10_bits_86 : decode cX10_bits 86 = .ok (.iinc 5 1, 3) := by decide +kernel
theorem dX10_bits_89 : decode cX10_bits 89 = .ok (.goto (-48), 3) := by decide +kernel
theorem dX10_bits_92 : decode cX10_bits 92 = .ok (.iload_n 2, 1) := by decide +kernel
theorem dX10_bits_93 : decode cX10_bits 93 = .ok (.ifCond .ne 13, 3) := by decide +kernel
theorem dX10_bits_96 : decode cX10_bits 96 = .ok (.aload_n 0, 1) := by decide +kernel
theorem dX10_bits_97 : decode cX10_bits 97 = .ok (.iload_n 1, 1) := by decide +kernel
theorem dX10_bits_98 : decode cX10_bits 98 = .ok (.iload 4, 2) := by decide +kernel
theorem dX10_bits_100 : decode cX10_bits 100 = .ok (.invokevirtual 193, 3) := by decide +kernel
theorem dX10_bits_103 : decode cX10_bits 103 = .ok (.goto 14, 3) := by decide +kernel
theorem dX10_bits_106 : decode cX10_bits 106 = .ok (.iload_n 2, 1) := by decide +kernel
theorem dX10_bits_107 : decode cX10_bits 107 = .ok (.iconst 1, 1) := by decide +kernel
theorem dX10_bits_108 : decode cX10_bits 108 = .ok (.if_icmp .ne 7, 3) := by decide +kernel
theorem dX10_bits_111 : decode cX10_bits 111 = .ok (.iload_n 3, 1) := by decide +kernel
theorem dX10_bits_112 : decode cX10_bits 112 = .ok (.goto 5, 3) := by decide +kernel
theorem dX10_bits_115 : decode cX10_bits 115 = .ok (.iload 4, 2) := by decide +kernel
theorem dX10_bits_117 : decode cX10_bits 117 = .ok (.ireturn, 1) := by decide +kernel
theorem wMd_bits_41 (l : Launch) (G : zG) : ∀ (fuel : Nat) (v1 : Int32) (v2 : Int32) (v3 : Int32) (v4 : Int32) (v5 : Int32) (M : zM), zV eI l G zLY zRY 6 yX10_bits cX10_bits 6 (some .int) 41 [(0, .ref 0), (1, .int v1), (2, .int v2), (3, .int v3), (4, .int v4), (5, .int v5)] [] M (fMd_bits_41 fuel v1 v2 v3 v4 v5 M) := by
  intro fuel
  induction fuel with
  | zero => intro v1 v2 v3 v4 v5 M; exact v_none
  | succ fuel ih =>
    intro v1 v2 v3 v4 v5 M
    rw [fMd_bits_41]
    refine v_iload (pc := 41) dX10_bits_41 rfl ?_
    refine v_aload_n (pc := 43) dX10_bits_43 rfl ?_
    refine v_getI (pc := 44) (q := 0) zk10 ly_0 rfl tw_1026 dX10_bits_44 ?_
    refine v_icmp_ge (pc := 47) 92 dX10_bits_47 (by decide) ?_ ?_
    · refine v_iload_n (pc := 92) dX10_bits_92 rfl ?_
      refine v_if_ne (pc := 93) 106 dX10_bits_93 (by decide) ?_ ?_
      · refine v_iload_n (pc := 106) dX10_bits_106 rfl ?_
        refine v_iconst (pc := 107) 1 dX10_bits_107 (by decide) ?_
        refine v_icmp_ne (pc := 108) 115 dX10_bits_108 (by decide) ?_ ?_
        · refine v_iload (pc := 115) dX10_bits_115 rfl ?_
          exact v_iret (pc := 117) dX10_bits_117
        · refine v_iload_n (pc := 111) dX10_bits_111 rfl ?_
          refine v_goto (pc := 112) 117 dX10_bits_112 (by decide) ?_
          exact v_iret (pc := 117) dX10_bits_117
      · refine v_aload_n (pc := 96) dX10_bits_96 rfl ?_
        refine v_iload_n (pc := 97) dX10_bits_97 rfl ?_
        refine v_iload (pc := 98) dX10_bits_98 rfl ?_
        refine v_callV (pc := 100) (As := [.int v1, .int v4]) (cMd_bitsOf l G v1 v4 M) zc_X10_bitsOf zk10 rfl ly_0 tw_1269 (by decide) (Nat.le_of_ble_eq_true rfl) dX10_bits_100 (fun r2 M1 => ?_)
        refine v_goto (pc := 103) 117 dX10_bits_103 (by decide) ?_
        exact v_iret (pc := 117) dX10_bits_117
    · refine v_iload_n (pc := 50) dX10_bits_50 rfl ?_
      refine v_aload_n (pc := 51) dX10_bits_51 rfl ?_
      refine v_iload_n (pc := 52) dX10_bits_52 rfl ?_
      refine v_iload (pc := 53) dX10_bits_53 rfl ?_
      refine v_callV (pc := 55) (As := [.int v1, .int v5]) (cMd_bitsOf l G v1 v5 M) zc_X10_bitsOf zk10 rfl ly_0 tw_1269 (by decide) (Nat.le_of_ble_eq_true rfl) dX10_bits_55 (fun r4 M3 => ?_)
      refine v_iadd (pc := 58) dX10_bits_58 ?_
      refine v_istore_nL (pc := 59) dX10_bits_59 (by decide) (fun u3_59 => ?_)
      refine v_aload_n (pc := 60) dX10_bits_60 rfl ?_
      refine v_iload_n (pc := 61) dX10_bits_61 rfl ?_
      refine v_iload (pc := 62) dX10_bits_62 rfl ?_
      refine v_callV (pc := 64) (As := [.int v1, .int v5]) (cMd_bitsOf l G v1 v5 M3) zc_X10_bitsOf zk10 rfl ly_0 tw_1269 (by decide) (Nat.le_of_ble_eq_true rfl) dX10_bits_64 (fun r6 M5 => ?_)
      refine v_aload_n (pc := 67) dX10_bits_67 rfl ?_
      refine v_iload_n (pc := 68) dX10_bits_68 rfl ?_
      refine v_iload (pc := 69) dX10_bits_69 rfl ?_
      refine v_callV (pc := 71) (As := [.int v1, .int v4]) (cMd_bitsOf l G v1 v4 M5) zc_X10_bitsOf zk10 rfl ly_0 tw_1269 (by decide) (Nat.le_of_ble_eq_true rfl) dX10_bits_71 (fun r8 M7 => ?_)
      refine v_icmp_le (pc := 74) 82 dX10_bits_74 (by decide) ?_ ?_
      · refine v_iload (pc := 82) dX10_bits_82 rfl ?_
        refine v_istore (pc := 84) dX10_bits_84 (by decide) ?_
        refine v_iinc (pc := 86) 1 dX10_bits_86 rfl (by decide) (by decide) ?_
        refine v_goto (pc := 89) 41 dX10_bits_89 (by decide) ?_
        exact v_sub (ih v1 v2 u3_59 v4 (v5 + 1) M7) rfl
      · refine v_iload (pc := 77) dX10_bits_77 rfl ?_
        refine v_goto (pc := 79) 84 dX10_bits_79 (by decide) ?_
        refine v_istore (pc := 84) dX10_bits_84 (by decide) ?_
        refine v_iinc (pc := 86) 1 dX10_bits_86 rfl (by decide) (by decide) ?_
        refine v_goto (pc := 89) 41 dX10_bits_89 (by decide) ?_
        exact v_sub (ih v1 v2 u3_59 v5 (v5 + 1) M7) rfl
theorem wMd_bits (l : Launch) (G : zG) (v1 : Int32) (v2 : Int32) (M : zM) : zV eI l G zLY zRY 6 yX10_bits cX10_bits 6 (some .int) 0 [(0, .ref 0), (1, .int v1), (2, .int v2)] [] M (fMd_bits v1 v2 M) := by
  rw [fMd_bits]
  refine v_iload_n (pc := 0) dX10_bits_0 rfl ?_
  refine v_i2l (pc := 1) dX10_bits_1 ?_
  refine v_lconst (pc := 2) 0 dX10_bits_2 (by decide) ?_
  refine v_ldc2 (pc := 3) 3 tw_1231 dX10_bits_3 ?_
  refine v_callS (pc := 6) (As := [.long v1.toInt64, .long 0, .long 3]) (cMd_in l G v1.toInt64 0 3 M) zc_X10_in tw_1153 (by decide) (Nat.le_of_ble_eq_true rfl) dX10_bits_6 (fun r2 M1 => ?_)
  refine v_if_eq (pc := 9) 24 dX10_bits_9 (by decide) ?_ ?_
  · refine v_sipush (pc := 24) (-1002) dX10_bits_24 (by decide) ?_
    exact v_iret (pc := 27) dX10_bits_27
  · refine v_iload_n (pc := 12) dX10_bits_12 rfl ?_
    refine v_i2l (pc := 13) dX10_bits_13 ?_
    refine v_lconst (pc := 14) 0 dX10_bits_14 (by decide) ?_
    refine v_ldc2 (pc := 15) 2 tw_1268 dX10_bits_15 ?_
    refine v_callS (pc := 18) (As := [.long v2.toInt64, .long 0, .long 2]) (cMd_in l G v2.toInt64 0 2 M1) zc_X10_in tw_1153 (by decide) (Nat.le_of_ble_eq_true rfl) dX10_bits_18 (fun r4 M3 => ?_)
    refine v_if_ne (pc := 21) 28 dX10_bits_21 (by decide) ?_ ?_
    · refine v_aload_n (pc := 28) dX10_bits_28 rfl ?_
      refine v_iload_n (pc := 29) dX10_bits_29 rfl ?_
      refine v_callV (pc := 30) (As := [.int v1]) (cMd_findNames l G v1 M3) zc_X10_findNames zk10 rfl ly_0 tw_1232 (by decide) (Nat.le_of_ble_eq_true rfl) dX10_bits_30 (fun _ M5 => ?_)
      skip
      refine v_iconst (pc := 33) 0 dX10_bits_33 (by decide) ?_
      refine v_istore_n (pc := 34) dX10_bits_34 (by decide) ?_
      refine v_iconst (pc := 35) 0 dX10_bits_35 (by decide) ?_
      refine v_istore (pc := 36) dX10_bits_36 (by decide) ?_
      refine v_iconst (pc := 38) 0 dX10_bits_38 (by decide) ?_
      refine v_istore (pc := 39) dX10_bits_39 (by decide) ?_
      exact v_sub (wMd_bits_41 l G FU v1 v2 0 0 0 M5) rfl
    · refine v_sipush (pc := 24) (-1002) dX10_bits_24 (by decide) ?_
      exact v_iret (pc := 27) dX10_bits_27
theorem cMd_bits (l : Launch) (G : zG) (v1 : Int32) (v2 : Int32) (M : zM) : zC eI l G zLY zRY 6 yX10_bits cX10_bits 6 (some .int) [.ref 0, .int v1, .int v2] M (fMd_bits v1 v2 M) := zC.of (by decide) (Nat.le_of_ble_eq_true rfl) (v_sub (wMd_bits l G v1 v2 M) rfl)
theorem dX10_sayOf_0 : decode cX10_sayOf 0 = .ok (.iload_n 1, 1) := by decide +kernel
theorem dX10_sayOf_1 : decode cX10_sayOf 1 = .ok (.ifCond .ne 42, 3) := by decide +kernel
theorem dX10_sayOf_4 : decode cX10_sayOf 4 = .ok (.aload_n 0, 1) := by decide +kernel
theorem dX10_sayOf_5 : decode cX10_sayOf 5 = .ok (.getfield 46, 3) := by decide +kernel
theorem dX10_sayOf_8 : decode cX10_sayOf 8 = .ok (.bipush 26, 2) := by decide +kernel
theorem dX10_sayOf_10 : decode cX10_sayOf 10 = .ok (.iload_n 3, 1) := by decide +kernel
theorem dX10_sayOf_11 : decode cX10_sayOf 11 = .ok (.imul, 1) := by decide +kernel
theorem dX10_sayOf_12 : decode cX10_sayOf 12 = .ok (.iaload, 1) := by decide +kernel
theorem dX10_sayOf_13 : decode cX10_sayOf 13 = .ok (.i2l, 1) := by decide +kernel
theorem dX10_sayOf_14 : decode cX10_sayOf 14 = .ok (.aload_n 0, 1) := by decide +kernel
theorem dX10_sayOf_15 : decode cX10_sayOf 15 = .ok (.getfield 46, 3) := by decide +kernel
theorem dX10_sayOf_18 : decode cX10_sayOf 18 = .ok (.bipush 26, 2) := by decide +kernel
theorem dX10_sayOf_20 : decode cX10_sayOf 20 = .ok (.iload_n 2, 1) := by decide +kernel
theorem dX10_sayOf_21 : decode cX10_sayOf 21 = .ok (.imul, 1) := by decide +kernel
theorem dX10_sayOf_22 : decode cX10_sayOf 22 = .ok (.iaload, 1) := by decide +kernel
theorem dX10_sayOf_23 : decode cX10_sayOf 23 = .ok (.i2l, 1) := by decide +kernel
theorem dX10_sayOf_24 : decode cX10_sayOf 24 = .ok (.aload_n 0, 1) := by decide +kernel
theorem dX10_sayOf_25 : decode cX10_sayOf 25 = .ok (.getfield 46, 3) := by decide +kernel
theorem dX10_sayOf_28 : decode cX10_sayOf 28 = .ok (.bipush 26, 2) := by decide +kernel
theorem dX10_sayOf_30 : decode cX10_sayOf 30 = .ok (.iload_n 2, 1) := by decide +kernel
theorem dX10_sayOf_31 : decode cX10_sayOf 31 = .ok (.imul, 1) := by decide +kernel
theorem dX10_sayOf_32 : decode cX10_sayOf 32 = .ok (.iconst 1, 1) := by decide +kernel
theorem dX10_sayOf_33 : decode cX10_sayOf 33 = .ok (.iadd, 1) := by decide +kernel
theorem dX10_sayOf_34 : decode cX10_sayOf 34 = .ok (.iaload, 1) := by decide +kernel
theorem dX10_sayOf_35 : decode cX10_sayOf 35 = .ok (.i2l, 1) := by decide +kernel
theorem dX10_sayOf_36 : decode cX10_sayOf 36 = .ok (.invokestatic 102, 3) := by decide +kernel
theorem dX10_sayOf_39 : decode cX10_sayOf 39 = .ok (.invokestatic 109, 3) := by decide +kernel
theorem dX10_sayOf_42 : decode cX10_sayOf 42 = .ok (.ireturn, 1) := by decide +kernel
theorem dX10_sayOf_43 : decode cX10_sayOf 43 = .ok (.iload_n 1, 1) := by decide +kernel
theorem dX10_sayOf_44 : decode cX10_sayOf 44 = .ok (.iconst 2, 1) := by decide +kernel
theorem dX10_sayOf_45 : decode cX10_sayOf 45 = .ok (.if_icmp .ne 10, 3) := by decide +kernel
theorem dX10_sayOf_48 : decode cX10_sayOf 48 = .ok (.aload_n 0, 1) := by decide +kernel
theorem dX10_sayOf_49 : decode cX10_sayOf 49 = .ok (.iload_n 2, 1) := by decide +kernel
theorem dX10_sayOf_50 : decode cX10_sayOf 50 = .ok (.iload_n 3, 1) := by decide +kernel
theorem dX10_sayOf_51 : decode cX10_sayOf 51 = .ok (.invokevirtual 143, 3) := by decide +kernel
theorem dX10_sayOf_54 : decode cX10_sayOf 54 = .ok (.ireturn, 1) := by decide +kernel
theorem dX10_sayOf_55 : decode cX10_sayOf 55 = .ok (.iconst 0, 1) := by decide +kernel
theorem dX10_sayOf_56 : decode cX10_sayOf 56 = .ok (.istore 4, 2) := by decide +kernel
theorem dX10_sayOf_58 : decode cX10_sayOf 58 = .ok (.iconst 1, 1) := by decide +kernel
theorem dX10_sayOf_59 : decode cX10_sayOf 59 = .ok (.istore 5, 2) := by decide +kernel
theorem dX10_sayOf_61 : decode cX10_sayOf 61 = .ok (.iload 5, 2) := by decide +kernel
theorem dX10_sayOf_63 : decode cX10_sayOf 63 = .ok (.aload_n 0, 1) := by decide +kernel
theorem dX10_sayOf_64 : decode cX10_sayOf 64 = .ok (.getfield 43, 3) := by decide +kernel
theorem dX10_sayOf_67 : decode cX10_sayOf 67 = .ok (.iload_n 2, 1) := by decide +kernel
theorem dX10_sayOf_68 : decode cX10_sayOf 68 = .ok (.iaload, 1) := by decide +kernel
theorem dX10_sayOf_69 : decode cX10_sayOf 69 = .ok (.if_icmp .ge 45, 3) := by decide +kernel
theorem dX10_sayOf_72 : decode cX10_sayOf 72 = .ok (.iload 4, 2) := by decide +kernel
theorem dX10_sayOf_74 : decode cX10_sayOf 74 = .ok (.ifCond .ne 27, 3) := by decide +kernel
theorem dX10_sayOf_77 : decode cX10_sayOf 77 = .ok (.aload_n 0, 1) := by decide +kernel
theorem dX10_sayOf_78 : decode cX10_sayOf 78 = .ok (.getfield 46, 3) := by decide +kernel
theorem dX10_sayOf_81 : decode cX10_sayOf 81 = .ok (.bipush 26, 2) := by decide +kernel
theorem dX10_sayOf_83 : decode cX10_sayOf 83 = .ok (.iload_n 2, 1) := by decide +kernel
theorem dX10_sayOf_84 : decode cX10_sayOf 84 = .ok (.imul, 1) := by decide +kernel
theorem dX10_sayOf_85 : decode cX10_sayOf 85 = .ok (.iload 5, 2) := by decide +kernel
theorem dX10_sayOf_87 : decode cX10_sayOf 87 = .ok (.iadd, 1) := by decide +kernel
theorem dX10_sayOf_88 : decode cX10_sayOf 88 = .ok (.iaload, 1) := by decide +kernel
theorem dX10_sayOf_89 : decode cX10_sayOf 89 = .ok (.aload_n 0, 1) := by decide +kernel
theorem dX10_sayOf_90 : decode cX10_sayOf 90 = .ok (.getfield 46, 3) := by decide +kernel
theorem dX10_sayOf_93 : decode cX10_sayOf 93 = .ok (.bipush 26, 2) := by decide +kernel
theorem dX10_sayOf_95 : decode cX10_sayOf 95 = .ok (.iload_n 3, 1) := by decide +kernel
theorem dX10_sayOf_96 : decode cX10_sayOf 96 = .ok (.imul, 1) := by decide +kernel
theorem dX10_sayOf_97 : decode cX10_sayOf 97 = .ok (.iaload, 1) := by decide +kernel
theorem dX10_sayOf_98 : decode cX10_sayOf 98 = .ok (.if_icmp .ne 7, 3) := by decide +kernel
theorem dX10_sayOf_101 : decode cX10_sayOf 101 = .ok (.iconst 1, 1) := by decide +kernel
theorem dX10_sayOf_102 : decode cX10_sayOf 102 = .ok (.goto 4, 3) := by decide +kernel
theorem dX10_sayOf_105 : decode cX10_sayOf 105 = .ok (.iconst 0, 1) := by decide +kernel
theorem dX10_sayOf_106 : decode cX10_sayOf 106 = .ok (.istore 4, 2) := by decide +kernel
theorem dX10_sayOf_108 : decode cX10_sayOf 108 = .ok (.iinc 5 1, 3) := by decide +kernel
theorem dX10_sayOf_111 : decode cX10_sayOf 111 = .ok (.goto (-50), 3) := by decide +kernel
theorem dX10_sayOf_114 : decode cX10_sayOf 114 = .ok (.iconst 1, 1) := by decide +kernel
theorem dX10_sayOf_115 : decode cX10_sayOf 115 = .ok (.istore 5, 2) := by decide +kernel
theorem dX10_sayOf_117 : decode cX10_sayOf 117 = .ok (.iload 5, 2) := by decide +kernel
theorem dX10_sayOf_119 : decode cX10_sayOf 119 = .ok (.aload_n 0, 1) := by decide +kernel
theorem dX10_sayOf_120 : decode cX10_sayOf 120 = .ok (.getfield 43, 3) := by decide +kernel
theorem dX10_sayOf_123 : decode cX10_sayOf 123 = .ok (.iload_n 3, 1) := by decide +kernel
theorem dX10_sayOf_124 : decode cX10_sayOf 124 = .ok (.iaload, 1) := by decide +kernel
theorem dX10_sayOf_125 : decode cX10_sayOf 125 = .ok (.if_icmp .ge 45, 3) := by decide +kernel
theorem dX10_sayOf_128 : decode cX10_sayOf 128 = .ok (.iload 4, 2) := by decide +kernel
theorem dX10_sayOf_130 : decode cX10_sayOf 130 = .ok (.ifCond .ne 27, 3) := by decide +kernel
theorem dX10_sayOf_133 : decode cX10_sayOf 133 = .ok (.aload_n 0, 1) := by decide +kernel
theorem dX10_sayOf_134 : decode cX10_sayOf 134 = .ok (.getfield 46, 3) := by decide +kernel
theorem dX10_sayOf_137 : decode cX10_sayOf 137 = .ok (.bipush 26, 2) := by decide +kernel
theorem dX10_sayOf_139 : decode cX10_sayOf 139 = .ok (.iload_n 3, 1) := by decide +kernel
theorem dX10_sayOf_140 : decode cX10_sayOf 140 = .ok (.imul, 1) := by decide +kernel
theorem dX10_sayOf_141 : decode cX10_sayOf 141 = .ok (.iload 5, 2) := by decide +kernel
theorem dX10_sayOf_143 : decode cX10_sayOf 143 = .ok (.iadd, 1) := by decide +kernel
theorem dX10_sayOf_144 : decode cX10_sayOf 144 = .ok (.iaload, 1) := by decide +kernel
theorem dX10_sayOf_145 : decode cX10_sayOf 145 = .ok (.aload_n 0, 1) := by decide +kernel
theorem dX10_sayOf_146 : decode cX10_sayOf 146 = .ok (.getfield 46, 3) := by decide +kernel
theorem dX10_sayOf_149 : decode cX10_sayOf 149 = .ok (.bipush 26, 2) := by decide +kernel
theorem dX10_sayOf_151 : decode cX10_sayOf 151 = .ok (.iload_n 2, 1) := by decide +kernel
theorem dX10_sayOf_152 : decode cX10_sayOf 152 = .ok (.imul, 1) := by decide +kernel
theorem dX10_sayOf_153 : decode cX10_sayOf 153 = .ok (.iaload, 1) := by decide +kernel
theorem dX10_sayOf_154 : decode cX10_sayOf 154 = .ok (.if_icmp .ne 7, 3) := by decide +kernel
theorem dX10_sayOf_157 : decode cX10_sayOf 157 = .ok (.iconst 1, 1) := by decide +kernel
theorem dX10_sayOf_158 : decode cX10_sayOf 158 = .ok (.goto 4, 3) := by decide +kernel
theorem dX10_sayOf_161 : decode cX10_sayOf 161 = .ok (.iconst 0, 1) := by decide +kernel
theorem dX10_sayOf_162 : decode cX10_sayOf 162 = .ok (.istore 4, 2) := by decide +kernel
theorem dX10_sayOf_164 : decode cX10_sayOf 164 = .ok (.iinc 5 1, 3) := by decide +kernel
theorem dX10_sayOf_167 : decode cX10_sayOf 167 = .ok (.goto (-50), 3) := by decide +kernel
theorem dX10_sayOf_170 : decode cX10_sayOf 170 = .ok (.iload 4, 2) := by decide +kernel
theorem dX10_sayOf_172 : decode cX10_sayOf 172 = .ok (.invokestatic 109, 3) := by decide +kernel
theorem dX10_sayOf_175 : decode cX10_sayOf 175 = .ok (.ireturn, 1) := by decide +kernel
theorem wMd_sayOf_117 (l : Launch) (G : zG) : ∀ (fuel : Nat) (v2 : Int32) (v3 : Int32) (v4 : Int32) (v5 : Int32) (M : zM), zV eI l G zLY zRY 2 yX10_sayOf cX10_sayOf 6 (some .int) 117 [(0, .ref 0), (2, .int v2), (3, .int v3), (4, .int v4), (5, .int v5)] [] M (fMd_sayOf_117 fuel v2 v3 v4 v5 M) := by
  intro fuel
  induction fuel with
  | zero => intro v2 v3 v4 v5 M; exact v_none
  | succ fuel ih =>
    intro v2 v3 v4 v5 M
    rw [fMd_sayOf_117]
    refine v_iload (pc := 117) dX10_sayOf_117 rfl ?_
    refine v_aload_n (pc := 119) dX10_sayOf_119 rfl ?_
    refine v_getR (pc := 120) (q := 15) zk10 ly_0 rfl ry_0_15 tw_1041 dX10_sayOf_120 ?_
    refine v_iload_n (pc := 123) dX10_sayOf_123 rfl ?_
    refine v_iald (pc := 124) ly_12 dX10_sayOf_124 (fun x1 => ?_)
    refine v_icmp_ge (pc := 125) 170 dX10_sayOf_125 (by decide) ?_ ?_
    · refine v_iload (pc := 170) dX10_sayOf_170 rfl ?_
      refine v_callS (pc := 172) (As := [.int v4]) (cMd_bit l G v4 M) zc_X10_bit tw_1196 (by decide) (Nat.le_of_ble_eq_true rfl) dX10_sayOf_172 (fun r3 M2 => ?_)
      exact v_iret (pc := 175) dX10_sayOf_175
    · refine v_iload (pc := 128) dX10_sayOf_128 rfl ?_
      refine v_if_ne (pc := 130) 157 dX10_sayOf_130 (by decide) ?_ ?_
      · refine v_iconst (pc := 157) 1 dX10_sayOf_157 (by decide) ?_
        refine v_goto (pc := 158) 162 dX10_sayOf_158 (by decide) ?_
        refine v_istore (pc := 162) dX10_sayOf_162 (by decide) ?_
        refine v_iinc (pc := 164) 1 dX10_sayOf_164 rfl (by decide) (by decide) ?_
        refine v_goto (pc := 167) 117 dX10_sayOf_167 (by decide) ?_
        exact v_sub (ih v2 v3 1 (v5 + 1) M) rfl
      · refine v_aload_n (pc := 133) dX10_sayOf_133 rfl ?_
        refine v_getR (pc := 134) (q := 16) zk10 ly_0 rfl ry_0_16 tw_1042 dX10_sayOf_134 ?_
        refine v_bipush (pc := 137) 26 dX10_sayOf_137 (by decide) ?_
        refine v_iload_n (pc := 139) dX10_sayOf_139 rfl ?_
        refine v_imul (pc := 140) dX10_sayOf_140 ?_
        refine v_iload (pc := 141) dX10_sayOf_141 rfl ?_
        refine v_iadd (pc := 143) dX10_sayOf_143 ?_
        refine v_iald (pc := 144) ly_13 dX10_sayOf_144 (fun x4 => ?_)
        refine v_aload_n (pc := 145) dX10_sayOf_145 rfl ?_
        refine v_getR (pc := 146) (q := 16) zk10 ly_0 rfl ry_0_16 tw_1042 dX10_sayOf_146 ?_
        refine v_bipush (pc := 149) 26 dX10_sayOf_149 (by decide) ?_
        refine v_iload_n (pc := 151) dX10_sayOf_151 rfl ?_
        refine v_imul (pc := 152) dX10_sayOf_152 ?_
        refine v_iald (pc := 153) ly_13 dX10_sayOf_153 (fun x5 => ?_)
        refine v_icmp_ne (pc := 154) 161 dX10_sayOf_154 (by decide) ?_ ?_
        · refine v_iconst (pc := 161) 0 dX10_sayOf_161 (by decide) ?_
          refine v_istore (pc := 162) dX10_sayOf_162 (by decide) ?_
          refine v_iinc (pc := 164) 1 dX10_sayOf_164 rfl (by decide) (by decide) ?_
          refine v_goto (pc := 167) 117 dX10_sayOf_167 (by decide) ?_
          exact v_sub (ih v2 v3 0 (v5 + 1) M) rfl
        · refine v_iconst (pc := 157) 1 dX10_sayOf_157 (by decide) ?_
          refine v_goto (pc := 158) 162 dX10_sayOf_158 (by decide) ?_
          refine v_istore (pc := 162) dX10_sayOf_162 (by decide) ?_
          refine v_iinc (pc := 164) 1 dX10_sayOf_164 rfl (by decide) (by decide) ?_
          refine v_goto (pc := 167) 117 dX10_sayOf_167 (by decide) ?_
          exact v_sub (ih v2 v3 1 (v5 + 1) M) rfl
theorem wMd_sayOf_61 (l : Launch) (G : zG) : ∀ (fuel : Nat) (v2 : Int32) (v3 : Int32) (v4 : Int32) (v5 : Int32) (M : zM), zV eI l G zLY zRY 2 yX10_sayOf cX10_sayOf 6 (some .int) 61 [(0, .ref 0), (2, .int v2), (3, .int v3), (4, .int v4), (5, .int v5)] [] M (fMd_sayOf_61 fuel v2 v3 v4 v5 M) := by
  intro fuel
  induction fuel with
  | zero => intro v2 v3 v4 v5 M; exact v_none
  | succ fuel ih =>
    intro v2 v3 v4 v5 M
    rw [fMd_sayOf_61]
    refine v_iload (pc := 61) dX10_sayOf_61 rfl ?_
    refine v_aload_n (pc := 63) dX10_sayOf_63 rfl ?_
    refine v_getR (pc := 64) (q := 15) zk10 ly_0 rfl ry_0_15 tw_1041 dX10_sayOf_64 ?_
    refine v_iload_n (pc := 67) dX10_sayOf_67 rfl ?_
    refine v_iald (pc := 68) ly_12 dX10_sayOf_68 (fun x1 => ?_)
    refine v_icmp_ge (pc := 69) 114 dX10_sayOf_69 (by decide) ?_ ?_
    · refine v_iconst (pc := 114) 1 dX10_sayOf_114 (by decide) ?_
      refine v_istore (pc := 115) dX10_sayOf_115 (by decide) ?_
      exact v_sub (wMd_sayOf_117 l G FU v2 v3 v4 1 M) rfl
    · refine v_iload (pc := 72) dX10_sayOf_72 rfl ?_
      refine v_if_ne (pc := 74) 101 dX10_sayOf_74 (by decide) ?_ ?_
      · refine v_iconst (pc := 101) 1 dX10_sayOf_101 (by decide) ?_
        refine v_goto (pc := 102) 106 dX10_sayOf_102 (by decide) ?_
        refine v_istore (pc := 106) dX10_sayOf_106 (by decide) ?_
        refine v_iinc (pc := 108) 1 dX10_sayOf_108 rfl (by decide) (by decide) ?_
        refine v_goto (pc := 111) 61 dX10_sayOf_111 (by decide) ?_
        exact v_sub (ih v2 v3 1 (v5 + 1) M) rfl
      · refine v_aload_n (pc := 77) dX10_sayOf_77 rfl ?_
        refine v_getR (pc := 78) (q := 16) zk10 ly_0 rfl ry_0_16 tw_1042 dX10_sayOf_78 ?_
        refine v_bipush (pc := 81) 26 dX10_sayOf_81 (by decide) ?_
        refine v_iload_n (pc := 83) dX10_sayOf_83 rfl ?_
        refine v_imul (pc := 84) dX10_sayOf_84 ?_
        refine v_iload (pc := 85) dX10_sayOf_85 rfl ?_
        refine v_iadd (pc := 87) dX10_sayOf_87 ?_
        refine v_iald (pc := 88) ly_13 dX10_sayOf_88 (fun x2 => ?_)
        refine v_aload_n (pc := 89) dX10_sayOf_89 rfl ?_
        refine v_getR (pc := 90) (q := 16) zk10 ly_0 rfl ry_0_16 tw_1042 dX10_sayOf_90 ?_
        refine v_bipush (pc := 93) 26 dX10_sayOf_93 (by decide) ?_
        refine v_iload_n (pc := 95) dX10_sayOf_95 rfl ?_
        refine v_imul (pc := 96) dX10_sayOf_96 ?_
        refine v_iald (pc := 97) ly_13 dX10_sayOf_97 (fun x3 => ?_)
        refine v_icmp_ne (pc := 98) 105 dX10_sayOf_98 (by decide) ?_ ?_
        · refine v_iconst (pc := 105) 0 dX10_sayOf_105 (by decide) ?_
          refine v_istore (pc := 106) dX10_sayOf_106 (by decide) ?_
          refine v_iinc (pc := 108) 1 dX10_sayOf_108 rfl (by decide) (by decide) ?_
          refine v_goto (pc := 111) 61 dX10_sayOf_111 (by decide) ?_
          exact v_sub (ih v2 v3 0 (v5 + 1) M) rfl
        · refine v_iconst (pc := 101) 1 dX10_sayOf_101 (by decide) ?_
          refine v_goto (pc := 102) 106 dX10_sayOf_102 (by decide) ?_
          refine v_istore (pc := 106) dX10_sayOf_106 (by decide) ?_
          refine v_iinc (pc := 108) 1 dX10_sayOf_108 rfl (by decide) (by decide) ?_
          refine v_goto (pc := 111) 61 dX10_sayOf_111 (by decide) ?_
          exact v_sub (ih v2 v3 1 (v5 + 1) M) rfl
theorem wMd_sayOf (l : Launch) (G : zG) (v1 : Int32) (v2 : Int32) (v3 : Int32) (M : zM) : zV eI l G zLY zRY 2 yX10_sayOf cX10_sayOf 6 (some .int) 0 [(0, .ref 0), (1, .int v1), (2, .int v2), (3, .int v3)] [] M (fMd_sayOf v1 v2 v3 M) := by
  rw [fMd_sayOf]
  refine v_iload_n (pc := 0) dX10_sayOf_0 rfl ?_
  refine v_if_ne (pc := 1) 43 dX10_sayOf_1 (by decide) ?_ ?_
  · refine v_iload_n (pc := 43) dX10_sayOf_43 rfl ?_
    refine v_iconst (pc := 44) 2 dX10_sayOf_44 (by decide) ?_
    refine v_icmp_ne (pc := 45) 55 dX10_sayOf_45 (by decide) ?_ ?_
    · refine v_iconst (pc := 55) 0 dX10_sayOf_55 (by decide) ?_
      refine v_istore (pc := 56) dX10_sayOf_56 (by decide) ?_
      refine v_iconst (pc := 58) 1 dX10_sayOf_58 (by decide) ?_
      refine v_istore (pc := 59) dX10_sayOf_59 (by decide) ?_
      exact v_sub (wMd_sayOf_61 l G FU v2 v3 0 1 M) rfl
    · refine v_aload_n (pc := 48) dX10_sayOf_48 rfl ?_
      refine v_iload_n (pc := 49) dX10_sayOf_49 rfl ?_
      refine v_iload_n (pc := 50) dX10_sayOf_50 rfl ?_
      refine v_callV (pc := 51) (As := [.int v2, .int v3]) (cMd_farOf l G v2 v3 M) zc_X10_farOf zk10 rfl ly_0 tw_1260 (by decide) (Nat.le_of_ble_eq_true rfl) dX10_sayOf_51 (fun r2 M1 => ?_)
      exact v_iret (pc := 54) dX10_sayOf_54
  · refine v_aload_n (pc := 4) dX10_sayOf_4 rfl ?_
    refine v_getR (pc := 5) (q := 16) zk10 ly_0 rfl ry_0_16 tw_1042 dX10_sayOf_5 ?_
    refine v_bipush (pc := 8) 26 dX10_sayOf_8 (by decide) ?_
    refine v_iload_n (pc := 10) dX10_sayOf_10 rfl ?_
    refine v_imul (pc := 11) dX10_sayOf_11 ?_
    refine v_iald (pc := 12) ly_13 dX10_sayOf_12 (fun x3 => ?_)
    refine v_i2l (pc := 13) dX10_sayOf_13 ?_
    refine v_aload_n (pc := 14) dX10_sayOf_14 rfl ?_
    refine v_getR (pc := 15) (q := 16) zk10 ly_0 rfl ry_0_16 tw_1042 dX10_sayOf_15 ?_
    refine v_bipush (pc := 18) 26 dX10_sayOf_18 (by decide) ?_
    refine v_iload_n (pc := 20) dX10_sayOf_20 rfl ?_
    refine v_imul (pc := 21) dX10_sayOf_21 ?_
    refine v_iald (pc := 22) ly_13 dX10_sayOf_22 (fun x4 => ?_)
    refine v_i2l (pc := 23) dX10_sayOf_23 ?_
    refine v_aload_n (pc := 24) dX10_sayOf_24 rfl ?_
    refine v_getR (pc := 25) (q := 16) zk10 ly_0 rfl ry_0_16 tw_1042 dX10_sayOf_25 ?_
    refine v_bipush (pc := 28) 26 dX10_sayOf_28 (by decide) ?_
    refine v_iload_n (pc := 30) dX10_sayOf_30 rfl ?_
    refine v_imul (pc := 31) dX10_sayOf_31 ?_
    refine v_iconst (pc := 32) 1 dX10_sayOf_32 (by decide) ?_
    refine v_iadd (pc := 33) dX10_sayOf_33 ?_
    refine v_iald (pc := 34) ly_13 dX10_sayOf_34 (fun x5 => ?_)
    refine v_i2l (pc := 35) dX10_sayOf_35 ?_
    refine v_callS (pc := 36) (As := [.long x3.toInt64, .long x4.toInt64, .long x5.toInt64]) (cMd_in l G x3.toInt64 x4.toInt64 x5.toInt64 M) zc_X10_in tw_1153 (by decide) (Nat.le_of_ble_eq_true rfl) dX10_sayOf_36 (fun r7 M6 => ?_)
    refine v_callS (pc := 39) (As := [.int r7]) (cMd_bit l G r7 M6) zc_X10_bit tw_1196 (by decide) (Nat.le_of_ble_eq_true rfl) dX10_sayOf_39 (fun r9 M8 => ?_)
    exact v_iret (pc := 42) dX10_sayOf_42
theorem cMd_sayOf (l : Launch) (G : zG) (v1 : Int32) (v2 : Int32) (v3 : Int32) (M : zM) : zC eI l G zLY zRY 2 yX10_sayOf cX10_sayOf 6 (some .int) [.ref 0, .int v1, .int v2, .int v3] M (fMd_sayOf v1 v2 v3 M) := zC.of (by decide) (Nat.le_of_ble_eq_true rfl) (v_sub (wMd_sayOf l G v1 v2 v3 M) rfl)
theorem dX10_ask_0 : decode cX10_ask 0 = .ok (.aload_n 0, 1) := by decide +kernel
theorem dX10_ask_1 : decode cX10_ask 1 = .ok (.iload_n 2, 1) := by decide +kernel
theorem dX10_ask_2 : decode cX10_ask 2 = .ok (.invokevirtual 115, 3) := by decide +kernel
theorem dX10_ask_5 : decode cX10_ask 5 = .ok (.ifCond .ne 11, 3) := by decide +kernel
theorem dX10_ask_8 : decode cX10_ask 8 = .ok (.aload_n 0, 1) := by decide +kernel
theorem dX10_ask_9 : decode cX10_ask 9 = .ok (.iload_n 3, 1) := by decide +kernel
theorem dX10_ask_10 : decode cX10_ask 10 = .ok (.invokevirtual 115, 3) := by decide +kernel
theorem dX10_ask_13 : decode cX10_ask 13 = .ok (.ifCond .eq 7, 3) := by decide +kernel
theorem dX10_ask_16 : decode cX10_ask 16 = .ok (.sipush (-1001), 3) := by decide +kernel
theorem dX10_ask_19 : decode cX10_ask 19 = .ok (.ireturn, 1) := by decide +kernel
theorem dX10_ask_20 : decode cX10_ask 20 = .ok (.iload_n 1, 1) := by decide +kernel
theorem dX10_ask_21 : decode cX10_ask 21 = .ok (.i2l, 1) := by decide +kernel
theorem dX10_ask_22 : decode cX10_ask 22 = .ok (.lconst 0, 1) := by decide +kernel
theorem dX10_ask_23 : decode cX10_ask 23 = .ok (.ldc2_w 191, 3) := by decide +kernel
theorem dX10_ask_26 : decode cX10_ask 26 = .ok (.invokestatic 102, 3) := by decide +kernel
theorem dX10_ask_29 : decode cX10_ask 29 = .ok (.ifCond .ne 7, 3) := by decide +kernel
theorem dX10_ask_32 : decode cX10_ask 32 = .ok (.sipush (-1002), 3) := by decide +kernel
theorem dX10_ask_35 : decode cX10_ask 35 = .ok (.ireturn, 1) := by decide +kernel
theorem dX10_ask_36 : decode cX10_ask 36 = .ok (.aload_n 0, 1) := by decide +kernel
theorem dX10_ask_37 : decode cX10_ask 37 = .ok (.iload_n 1, 1) := by decide +kernel
theorem dX10_ask_38 : decode cX10_ask 38 = .ok (.invokevirtual 188, 3) := by decide +kernel
theorem dX10_ask_41 : decode cX10_ask 41 = .ok (.aload_n 0, 1) := by decide +kernel
theorem dX10_ask_42 : decode cX10_ask 42 = .ok (.iload_n 1, 1) := by decide +kernel
theorem dX10_ask_43 : decode cX10_ask 43 = .ok (.iload_n 2, 1) := by decide +kernel
theorem dX10_ask_44 : decode cX10_ask 44 = .ok (.iload_n 3, 1) := by decide +kernel
theorem dX10_ask_45 : decode cX10_ask 45 = .ok (.invokevirtual 196, 3) := by decide +kernel
theorem dX10_ask_48 : decode cX10_ask 48 = .ok (.ireturn, 1) := by decide +kernel
theorem wMd_ask (l : Launch) (G : zG) (v1 : Int32) (v2 : Int32) (v3 : Int32) (M : zM) : zV eI l G zLY zRY 6 yX10_ask cX10_ask 4 (some .int) 0 [(0, .ref 0), (1, .int v1), (2, .int v2), (3, .int v3)] [] M (fMd_ask v1 v2 v3 M) := by
  rw [fMd_ask]
  refine v_aload_n (pc := 0) dX10_ask_0 rfl ?_
  refine v_iload_n (pc := 1) dX10_ask_1 rfl ?_
  refine v_callV (pc := 2) (As := [.int v2]) (cMd_noPost l G v2 M) zc_X10_noPost zk10 rfl ly_0 tw_1164 (by decide) (Nat.le_of_ble_eq_true rfl) dX10_ask_2 (fun r2 M1 => ?_)
  refine v_if_ne (pc := 5) 16 dX10_ask_5 (by decide) ?_ ?_
  · refine v_sipush (pc := 16) (-1001) dX10_ask_16 (by decide) ?_
    exact v_iret (pc := 19) dX10_ask_19
  · refine v_aload_n (pc := 8) dX10_ask_8 rfl ?_
    refine v_iload_n (pc := 9) dX10_ask_9 rfl ?_
    refine v_callV (pc := 10) (As := [.int v3]) (cMd_noPost l G v3 M1) zc_X10_noPost zk10 rfl ly_0 tw_1164 (by decide) (Nat.le_of_ble_eq_true rfl) dX10_ask_10 (fun r4 M3 => ?_)
    refine v_if_eq (pc := 13) 20 dX10_ask_13 (by decide) ?_ ?_
    · refine v_iload_n (pc := 20) dX10_ask_20 rfl ?_
      refine v_i2l (pc := 21) dX10_ask_21 ?_
      refine v_lconst (pc := 22) 0 dX10_ask_22 (by decide) ?_
      refine v_ldc2 (pc := 23) 2 tw_1268 dX10_ask_23 ?_
      refine v_callS (pc := 26) (As := [.long v1.toInt64, .long 0, .long 2]) (cMd_in l G v1.toInt64 0 2 M3) zc_X10_in tw_1153 (by decide) (Nat.le_of_ble_eq_true rfl) dX10_ask_26 (fun r6 M5 => ?_)
      refine v_if_ne (pc := 29) 36 dX10_ask_29 (by decide) ?_ ?_
      · refine v_aload_n (pc := 36) dX10_ask_36 rfl ?_
        refine v_iload_n (pc := 37) dX10_ask_37 rfl ?_
        refine v_callV (pc := 38) (As := [.int v1]) (cMd_findNames l G v1 M5) zc_X10_findNames zk10 rfl ly_0 tw_1232 (by decide) (Nat.le_of_ble_eq_true rfl) dX10_ask_38 (fun _ M7 => ?_)
        skip
        refine v_aload_n (pc := 41) dX10_ask_41 rfl ?_
        refine v_iload_n (pc := 42) dX10_ask_42 rfl ?_
        refine v_iload_n (pc := 43) dX10_ask_43 rfl ?_
        refine v_iload_n (pc := 44) dX10_ask_44 rfl ?_
        refine v_callV (pc := 45) (As := [.int v1, .int v2, .int v3]) (cMd_sayOf l G v1 v2 v3 M7) zc_X10_sayOf zk10 rfl ly_0 tw_1277 (by decide) (Nat.le_of_ble_eq_true rfl) dX10_ask_45 (fun r9 M8 => ?_)
        exact v_iret (pc := 48) dX10_ask_48
      · refine v_sipush (pc := 32) (-1002) dX10_ask_32 (by decide) ?_
        exact v_iret (pc := 35) dX10_ask_35
    · refine v_sipush (pc := 16) (-1001) dX10_ask_16 (by decide) ?_
      exact v_iret (pc := 19) dX10_ask_19
theorem cMd_ask (l : Launch) (G : zG) (v1 : Int32) (v2 : Int32) (v3 : Int32) (M : zM) : zC eI l G zLY zRY 6 yX10_ask cX10_ask 4 (some .int) [.ref 0, .int v1, .int v2, .int v3] M (fMd_ask v1 v2 v3 M) := zC.of (by decide) (Nat.le_of_ble_eq_true rfl) (v_sub (wMd_ask l G v1 v2 v3 M) rfl)
theorem dX10_isParted_0 : decode cX10_isParted 0 = .ok (.aload_n 0, 1) := by decide +kernel
theorem dX10_isParted_1 : decode cX10_isParted 1 = .ok (.getfield 19, 3) := by decide +kernel
theorem dX10_isParted_4 : decode cX10_isParted 4 = .ok (.iload_n 1, 1) := by decide +kernel
theorem dX10_isParted_5 : decode cX10_isParted 5 = .ok (.iaload, 1) := by decide +kernel
theorem dX10_isParted_6 : decode cX10_isParted 6 = .ok (.aload_n 0, 1) := by decide +kernel
theorem dX10_isParted_7 : decode cX10_isParted 7 = .ok (.getfield 19, 3) := by decide +kernel
theorem dX10_isParted_10 : decode cX10_isParted 10 = .ok (.iload_n 2, 1) := by decide +kernel
theorem dX10_isParted_11 : decode cX10_isParted 11 = .ok (.iaload, 1) := by decide +kernel
theorem dX10_isParted_12 : decode cX10_isParted 12 = .ok (.if_icmp .eq 5, 3) := by decide +kernel
theorem dX10_isParted_15 : decode cX10_isParted 15 = .ok (.iconst 1, 1) := by decide +kernel
theorem dX10_isParted_16 : decode cX10_isParted 16 = .ok (.ireturn, 1) := by decide +kernel
theorem dX10_isParted_17 : decode cX10_isParted 17 = .ok (.iconst 0, 1) := by decide +kernel
theorem dX10_isParted_18 : decode cX10_isParted 18 = .ok (.istore 4, 2) := by decide +kernel
theorem dX10_isParted_20 : decode cX10_isParted 20 = .ok (.iconst 0, 1) := by decide +kernel
theorem dX10_isParted_21 : decode cX10_isParted 21 = .ok (.istore 5, 2) := by decide +kernel
theorem dX10_isParted_23 : decode cX10_isParted 23 = .ok (.iload 5, 2) := by decide +kernel
theorem dX10_isParted_25 : decode cX10_isParted 25 = .ok (.aload_n 0, 1) := by decide +kernel
theorem dX10_isParted_26 : decode cX10_isParted 26 = .ok (.getfield 106, 3) := by decide +kernel
theorem dX10_isParted_29 : decode cX10_isParted 29 = .ok (.if_icmp .ge 31, 3) := by decide +kernel
theorem dX10_isParted_32 : decode cX10_isParted 32 = .ok (.iload_n 3, 1) := by decide +kernel
theorem dX10_isParted_33 : decode cX10_isParted 33 = .ok (.iload 5, 2) := by decide +kernel
theorem dX10_isParted_35 : decode cX10_isParted 35 = .ok (.ishr, 1) := by decide +kernel
theorem dX10_isParted_36 : decode cX10_isParted 36 = .ok (.iconst 1, 1) := by decide +kernel
theorem dX10_isParted_37 : decode cX10_isParted 37 = .ok (.iand, 1) := by decide +kernel
theorem dX10_isParted_38 : decode cX10_isParted 38 = .ok (.iconst 1, 1) := by decide +kernel
theorem dX10_isParted_39 : decode cX10_isParted 39 = .ok (.if_icmp .ne 15, 3) := by decide +kernel
theorem dX10_isParted_42 : decode cX10_isParted 42 = .ok (.aload_n 0, 1) := by decide +kernel
theorem dX10_isParted_43 : decode cX10_isParted 43 = .ok (.getfield 55, 3) := by decide +kernel
theorem dX10_isParted_46 : decode cX10_isParted 46 = .ok (.iload 4, 2) := by decide +kernel
theorem dX10_isParted_48 : decode cX10_isParted 48 = .ok (.iload 5, 2) := by decide +kernel
theorem dX10_isParted_50 : decode cX10_isParted 50 = .ok (.iastore, 1) := by decide +kernel
theorem dX10_isParted_51 : decode cX10_isParted 51 = .ok (.iinc 4 1, 3) := by decide +kernel
theorem dX10_isParted_54 : decode cX10_isParted 54 = .ok (.iinc 5 1, 3) := by decide +kernel
theorem dX10_isParted_57 : decode cX10_isParted 57 = .ok (.goto (-34), 3) := by decide +kernel
theorem dX10_isParted_60 : decode cX10_isParted 60 = .ok (.aload_n 0, 1) := by decide +kernel
theorem dX10_isParted_61 : decode cX10_isParted 61 = .ok (.iload_n 1, 1) := by decide +kernel
theorem dX10_isParted_62 : decode cX10_isParted 62 = .ok (.invokevirtual 171, 3) := by decide +kernel
theorem dX10_isParted_65 : decode cX10_isParted 65 = .ok (.aload_n 0, 1) := by decide +kernel
theorem dX10_isParted_66 : decode cX10_isParted 66 = .ok (.iload_n 2, 1) := by decide +kernel
theorem dX10_isParted_67 : decode cX10_isParted 67 = .ok (.invokevirtual 171, 3) := by decide +kernel
theorem dX10_isParted_70 : decode cX10_isParted 70 = .ok (.ixor, 1) := by decide +kernel
theorem dX10_isParted_71 : decode cX10_isParted 71 = .ok (.istore 5, 2) := by decide +kernel
theorem dX10_isParted_73 : decode cX10_isParted 73 = .ok (.iconst 1, 1) := by decide +kernel
theorem dX10_isParted_74 : decode cX10_isParted 74 = .ok (.istore 6, 2) := by decide +kernel
theorem dX10_isParted_76 : decode cX10_isParted 76 = .ok (.iload 6, 2) := by decide +kernel
theorem dX10_isParted_78 : decode cX10_isParted 78 = .ok (.iconst 1, 1) := by decide +kernel
theorem dX10_isParted_79 : decode cX10_isParted 79 = .ok (.iload 4, 2) := by decide +kernel
theorem dX10_isParted_81 : decode cX10_isParted 81 = .ok (.ishl, 1) := by decide +kernel
theorem dX10_isParted_82 : decode cX10_isParted 82 = .ok (.if_icmp .ge 90, 3) := by decide +kernel
theorem dX10_isParted_85 : decode cX10_isParted 85 = .ok (.iconst 0, 1) := by decide +kernel
theorem dX10_isParted_86 : decode cX10_isParted 86 = .ok (.istore 7, 2) := by decide +kernel
theorem dX10_isParted_88 : decode cX10_isParted 88 = .ok (.iconst 0, 1) := by decide +kernel
theorem dX10_isParted_89 : decode cX10_isParted 89 = .ok (.istore 8, 2) := by decide +kernel
theorem dX10_isParted_91 : decode cX10_isParted 91 = .ok (.iconst 0, 1) := by decide +kernel
theorem dX10_isParted_92 : decode cX10_isParted 92 = .ok (.istore 9, 2) := by decide +kernel
theorem dX10_isParted_94 : decode cX10_isParted 94 = .ok (.iload 9, 2) := by decide +kernel
theorem dX10_isParted_96 : decode cX10_isParted 96 = .ok (.iload 4, 2) := by decide +kernel
theorem dX10_isParted_98 : decode cX10_isParted 98 = .ok (.if_icmp .ge 53, 3) := by decide +kernel
theorem dX10_isParted_101 : decode cX10_isParted 101 = .ok (.iload 6, 2) := by decide +kernel
theorem dX10_isParted_103 : decode cX10_isParted 103 = .ok (.iload 9, 2) := by decide +kernel
theorem dX10_isParted_105 : decode cX10_isParted 105 = .ok (.ishr, 1) := by decide +kernel
theorem dX10_isParted_106 : decode cX10_isParted 106 = .ok (.iconst 1, 1) := by decide +kernel
theorem dX10_isParted_107 : decode cX10_isParted 107 = .ok (.iand, 1) := by decide +kernel
theorem dX10_isParted_108 : decode cX10_isParted 108 = .ok (.iconst 1, 1) := by decide +kernel
theorem dX10_isParted_109 : decode cX10_isParted 109 = .ok (.if_icmp .ne 36, 3) := by decide +kernel
theorem dX10_isParted_112 : decode cX10_isParted 112 = .ok (.iload 7, 2) := by decide +kernel
theorem dX10_isParted_114 : decode cX10_isParted 114 = .ok (.aload_n 0, 1) := by decide +kernel
theorem dX10_isParted_115 : decode cX10_isParted 115 = .ok (.aload_n 0, 1) := by decide +kernel
theorem dX10_isParted_116 : decode cX10_isParted 116 = .ok (.getfield 55, 3) := by decide +kernel
theorem dX10_isParted_119 : decode cX10_isParted 119 = .ok (.iload 9, 2) := by decide +kernel
theorem dX10_isParted_121 : decode cX10_isParted 121 = .ok (.iaload, 1) := by decide +kernel
theorem dX10_isParted_122 : decode cX10_isParted 122 = .ok (.invokevirtual 183, 3) := by decide +kernel
theorem dX10_isParted_125 : decode cX10_isParted 125 = .ok (.ixor, 1) := by decide +kernel
theorem dX10_isParted_126 : decode cX10_isParted 126 = .ok (.istore 7, 2) := by decide +kernel
theorem dX10_isParted_128 : decode cX10_isParted 128 = .ok (.iload 8, 2) := by decide +kernel
theorem dX10_isParted_130 : decode cX10_isParted 130 = .ok (.iload 5, 2) := by decide +kernel
theorem dX10_isParted_132 : decode cX10_isParted 132 = .ok (.aload_n 0, 1) := by decide +kernel
theorem dX10_isParted_133 : decode cX10_isParted 133 = .ok (.getfield 55, 3) := by decide +kernel
theorem dX10_isParted_136 : decode cX10_isParted 136 = .ok (.iload 9, 2) := by decide +kernel
theorem dX10_isParted_138 : decode cX10_isParted 138 = .ok (.iaload, 1) := by decide +kernel
theorem dX10_isParted_139 : decode cX10_isParted 139 = .ok (.ishr, 1) := by decide +kernel
theorem dX10_isParted_140 : decode cX10_isParted 140 = .ok (.iconst 1, 1) := by decide +kernel
theorem dX10_isParted_141 : decode cX10_isParted 141 = .ok (.iand, 1) := by decide +kernel
theorem dX10_isParted_142 : decode cX10_isParted 142 = .ok (.iadd, 1) := by decide +kernel
theorem dX10_isParted_143 : decode cX10_isParted 143 = .ok (.istore 8, 2) := by decide +kernel
theorem dX10_isParted_145 : decode cX10_isParted 145 = .ok (.iinc 9 1, 3) := by decide +kernel
theorem dX10_isParted_148 : decode cX10_isParted 148 = .ok (.goto (-54), 3) := by decide +kernel
theorem dX10_isParted_151 : decode cX10_isParted 151 = .ok (.iload 7, 2) := by decide +kernel
theorem dX10_isParted_153 : decode cX10_isParted 153 = .ok (.ifCond .ne 13, 3) := by decide +kernel
theorem dX10_isParted_156 : decode cX10_isParted 156 = .ok (.iload 8, 2) := by decide +kernel
theorem dX10_isParted_158 : decode cX10_isParted 158 = .ok (.iconst 2, 1) := by decide +kernel
theorem dX10_isParted_159 : decode cX10_isParted 159 = .ok (.irem, 1) := by decide +kernel
theorem dX10_isParted_160 : decode cX10_isParted 160 = .ok (.iconst 1, 1) := by decide +kernel
theorem dX10_isParted_161 : decode cX10_isParted 161 = .ok (.if_icmp .ne 5, 3) := by decide +kernel
theorem dX10_isParted_164 : decode cX10_isParted 164 = .ok (.iconst 1, 1) := by decide +kernel
theorem dX10_isParted_165 : decode cX10_isParted 165 = .ok (.ireturn, 1) := by decide +kernel
theorem dX10_isParted_166 : decode cX10_isParted 166 = .ok (.iinc 6 1, 3) := by decide +kernel
theorem dX10_isParted_169 : decode cX10_isParted 169 = .ok (.goto (-93), 3) := by decide +kernel
theorem dX10_isParted_172 : decode cX10_isParted 172 = .ok (.iconst 0, 1) := by decide +kernel
theorem dX10_isParted_173 : decode cX10_isParted 173 = .ok (.ireturn, 1) := by decide +kernel
theorem wMd_isParted_94 (l : Launch) (G : zG) (k76 : Int32 → Int32 → Int32 → zM → Option (Int32 × zM)) (hk76 : ∀ (v4 : Int32) (v5 : Int32) (v6 : Int32) (M : zM), zV eI l G zLY zRY 3 yX10_isParted cX10_isParted 10 (some .boolean) 76 [(0, .ref 0), (4, .int v4), (5, .int v5), (6, .int v6)] [] M (k76 v4 v5 v6 M)) : ∀ (fuel : Nat) (v4 : Int32) (v5 : Int32) (v6 : Int32) (v7 : Int32) (v8 : Int32) (v9 : Int32) (M : zM), zV eI l G zLY zRY 3 yX10_isParted cX10_isParted 10 (some .boolean) 94 [(0, .ref 0), (4, .int v4), (5, .int v5), (6, .int v6), (7, .int v7), (8, .int v8), (9, .int v9)] [] M (fMd_isParted_94 k76 fuel v4 v5 v6 v7 v8 v9 M) := by
  intro fuel
  induction fuel with
  | zero => intro v4 v5 v6 v7 v8 v9 M; exact v_none
  | succ fuel ih =>
    intro v4 v5 v6 v7 v8 v9 M
    rw [fMd_isParted_94]
    refine v_iload (pc := 94) dX10_isParted_94 rfl ?_
    refine v_iload (pc := 96) dX10_isParted_96 rfl ?_
    refine v_icmp_ge (pc := 98) 151 dX10_isParted_98 (by decide) ?_ ?_
    · refine v_iload (pc := 151) dX10_isParted_151 rfl ?_
      refine v_if_ne (pc := 153) 166 dX10_isParted_153 (by decide) ?_ ?_
      · refine v_iinc (pc := 166) 1 dX10_isParted_166 rfl (by decide) (by decide) ?_
        refine v_goto (pc := 169) 76 dX10_isParted_169 (by decide) ?_
        exact v_sub (hk76 v4 v5 (v6 + 1) M) rfl
      · refine v_iload (pc := 156) dX10_isParted_156 rfl ?_
        refine v_iconst (pc := 158) 2 dX10_isParted_158 (by decide) ?_
        refine v_irem (pc := 159) dX10_isParted_159 (fun z1 => ?_)
        refine v_iconst (pc := 160) 1 dX10_isParted_160 (by decide) ?_
        refine v_icmp_ne (pc := 161) 166 dX10_isParted_161 (by decide) ?_ ?_
        · refine v_iinc (pc := 166) 1 dX10_isParted_166 rfl (by decide) (by decide) ?_
          refine v_goto (pc := 169) 76 dX10_isParted_169 (by decide) ?_
          exact v_sub (hk76 v4 v5 (v6 + 1) M) rfl
        · refine v_iconst (pc := 164) 1 dX10_isParted_164 (by decide) ?_
          exact v_zret (pc := 165) dX10_isParted_165
    · refine v_iload (pc := 101) dX10_isParted_101 rfl ?_
      refine v_iload (pc := 103) dX10_isParted_103 rfl ?_
      refine v_ishr (pc := 105) dX10_isParted_105 ?_
      refine v_iconst (pc := 106) 1 dX10_isParted_106 (by decide) ?_
      refine v_iand (pc := 107) dX10_isParted_107 ?_
      refine v_iconst (pc := 108) 1 dX10_isParted_108 (by decide) ?_
      refine v_icmp_ne (pc := 109) 145 dX10_isParted_109 (by decide) ?_ ?_
      · refine v_iinc (pc := 145) 1 dX10_isParted_145 rfl (by decide) (by decide) ?_
        refine v_goto (pc := 148) 94 dX10_isParted_148 (by decide) ?_
        exact v_sub (ih v4 v5 v6 v7 v8 (v9 + 1) M) rfl
      · refine v_iload (pc := 112) dX10_isParted_112 rfl ?_
        refine v_aload_n (pc := 114) dX10_isParted_114 rfl ?_
        refine v_aload_n (pc := 115) dX10_isParted_115 rfl ?_
        refine v_getR (pc := 116) (q := 19) zk10 ly_0 rfl ry_0_19 tw_1045 dX10_isParted_116 ?_
        refine v_iload (pc := 119) dX10_isParted_119 rfl ?_
        refine v_iald (pc := 121) ly_16 dX10_isParted_121 (fun x2 => ?_)
        refine v_callV (pc := 122) (As := [.int x2]) (cMd_lineName l G x2 M) zc_X10_lineName zk10 rfl ly_0 tw_1219 (by decide) (Nat.le_of_ble_eq_true rfl) dX10_isParted_122 (fun r4 M3 => ?_)
        refine v_ixor (pc := 125) dX10_isParted_125 ?_
        refine v_istoreL (pc := 126) dX10_isParted_126 (by decide) (fun u7_126 => ?_)
        refine v_iload (pc := 128) dX10_isParted_128 rfl ?_
        refine v_iload (pc := 130) dX10_isParted_130 rfl ?_
        refine v_aload_n (pc := 132) dX10_isParted_132 rfl ?_
        refine v_getR (pc := 133) (q := 19) zk10 ly_0 rfl ry_0_19 tw_1045 dX10_isParted_133 ?_
        refine v_iload (pc := 136) dX10_isParted_136 rfl ?_
        refine v_iald (pc := 138) ly_16 dX10_isParted_138 (fun x5 => ?_)
        refine v_ishr (pc := 139) dX10_isParted_139 ?_
        refine v_iconst (pc := 140) 1 dX10_isParted_140 (by decide) ?_
        refine v_iand (pc := 141) dX10_isParted_141 ?_
        refine v_iadd (pc := 142) dX10_isParted_142 ?_
        refine v_istoreL (pc := 143) dX10_isParted_143 (by decide) (fun u8_143 => ?_)
        refine v_iinc (pc := 145) 1 dX10_isParted_145 rfl (by decide) (by decide) ?_
        refine v_goto (pc := 148) 94 dX10_isParted_148 (by decide) ?_
        exact v_sub (ih v4 v5 v6 u7_126 u8_143 (v9 + 1) M3) rfl
theorem wMd_isParted_76 (l : Launch) (G : zG) : ∀ (fuel : Nat) (v4 : Int32) (v5 : Int32) (v6 : Int32) (M : zM), zV eI l G zLY zRY 3 yX10_isParted cX10_isParted 10 (some .boolean) 76 [(0, .ref 0), (4, .int v4), (5, .int v5), (6, .int v6)] [] M (fMd_isParted_76 fuel v4 v5 v6 M) := by
  intro fuel
  induction fuel with
  | zero => intro v4 v5 v6 M; exact v_none
  | succ fuel ih =>
    intro v4 v5 v6 M
    rw [fMd_isParted_76]
    refine v_iload (pc := 76) dX10_isParted_76 rfl ?_
    refine v_iconst (pc := 78) 1 dX10_isParted_78 (by decide) ?_
    refine v_iload (pc := 79) dX10_isParted_79 rfl ?_
    refine v_ishl (pc := 81) dX10_isParted_81 ?_
    refine v_icmp_ge (pc := 82) 172 dX10_isParted_82 (by decide) ?_ ?_
    · refine v_iconst (pc := 172) 0 dX10_isParted_172 (by decide) ?_
      exact v_zret (pc := 173) dX10_isParted_173
    · refine v_iconst (pc := 85) 0 dX10_isParted_85 (by decide) ?_
      refine v_istore (pc := 86) dX10_isParted_86 (by decide) ?_
      refine v_iconst (pc := 88) 0 dX10_isParted_88 (by decide) ?_
      refine v_istore (pc := 89) dX10_isParted_89 (by decide) ?_
      refine v_iconst (pc := 91) 0 dX10_isParted_91 (by decide) ?_
      refine v_istore (pc := 92) dX10_isParted_92 (by decide) ?_
      exact v_sub (wMd_isParted_94 l G (fMd_isParted_76 fuel) ih FU v4 v5 v6 0 0 0 M) rfl
theorem wMd_isParted_23 (l : Launch) (G : zG) : ∀ (fuel : Nat) (v1 : Int32) (v2 : Int32) (v3 : Int32) (v4 : Int32) (v5 : Int32) (M : zM), zV eI l G zLY zRY 3 yX10_isParted cX10_isParted 10 (some .boolean) 23 [(0, .ref 0), (1, .int v1), (2, .int v2), (3, .int v3), (4, .int v4), (5, .int v5)] [] M (fMd_isParted_23 fuel v1 v2 v3 v4 v5 M) := by
  intro fuel
  induction fuel with
  | zero => intro v1 v2 v3 v4 v5 M; exact v_none
  | succ fuel ih =>
    intro v1 v2 v3 v4 v5 M
    rw [fMd_isParted_23]
    refine v_iload (pc := 23) dX10_isParted_23 rfl ?_
    refine v_aload_n (pc := 25) dX10_isParted_25 rfl ?_
    refine v_getI (pc := 26) (q := 1) zk10 ly_0 rfl tw_1027 dX10_isParted_26 ?_
    refine v_icmp_ge (pc := 29) 60 dX10_isParted_29 (by decide) ?_ ?_
    · refine v_aload_n (pc := 60) dX10_isParted_60 rfl ?_
      refine v_iload_n (pc := 61) dX10_isParted_61 rfl ?_
      refine v_callV (pc := 62) (As := [.int v1]) (cMd_wayUp l G v1 M) zc_X10_wayUp zk10 rfl ly_0 tw_1223 (by decide) (Nat.le_of_ble_eq_true rfl) dX10_isParted_62 (fun r2 M1 => ?_)
      refine v_aload_n (pc := 65) dX10_isParted_65 rfl ?_
      refine v_iload_n (pc := 66) dX10_isParted_66 rfl ?_
      refine v_callV (pc := 67) (As := [.int v2]) (cMd_wayUp l G v2 M1) zc_X10_wayUp zk10 rfl ly_0 tw_1223 (by decide) (Nat.le_of_ble_eq_true rfl) dX10_isParted_67 (fun r4 M3 => ?_)
      refine v_ixor (pc := 70) dX10_isParted_70 ?_
      refine v_istoreL (pc := 71) dX10_isParted_71 (by decide) (fun u5_71 => ?_)
      refine v_iconst (pc := 73) 1 dX10_isParted_73 (by decide) ?_
      refine v_istore (pc := 74) dX10_isParted_74 (by decide) ?_
      exact v_sub (wMd_isParted_76 l G FU v4 u5_71 1 M3) rfl
    · refine v_iload_n (pc := 32) dX10_isParted_32 rfl ?_
      refine v_iload (pc := 33) dX10_isParted_33 rfl ?_
      refine v_ishr (pc := 35) dX10_isParted_35 ?_
      refine v_iconst (pc := 36) 1 dX10_isParted_36 (by decide) ?_
      refine v_iand (pc := 37) dX10_isParted_37 ?_
      refine v_iconst (pc := 38) 1 dX10_isParted_38 (by decide) ?_
      refine v_icmp_ne (pc := 39) 54 dX10_isParted_39 (by decide) ?_ ?_
      · refine v_iinc (pc := 54) 1 dX10_isParted_54 rfl (by decide) (by decide) ?_
        refine v_goto (pc := 57) 23 dX10_isParted_57 (by decide) ?_
        exact v_sub (ih v1 v2 v3 v4 (v5 + 1) M) rfl
      · refine v_aload_n (pc := 42) dX10_isParted_42 rfl ?_
        refine v_getR (pc := 43) (q := 19) zk10 ly_0 rfl ry_0_19 tw_1045 dX10_isParted_43 ?_
        refine v_iload (pc := 46) dX10_isParted_46 rfl ?_
        refine v_iload (pc := 48) dX10_isParted_48 rfl ?_
        refine v_iast (pc := 50) ly_16 dX10_isParted_50 (fun M5 => ?_)
        refine v_iinc (pc := 51) 1 dX10_isParted_51 rfl (by decide) (by decide) ?_
        refine v_iinc (pc := 54) 1 dX10_isParted_54 rfl (by decide) (by decide) ?_
        refine v_goto (pc := 57) 23 dX10_isParted_57 (by decide) ?_
        exact v_sub (ih v1 v2 v3 (v4 + 1) (v5 + 1) M5) rfl
theorem wMd_isParted (l : Launch) (G : zG) (v1 : Int32) (v2 : Int32) (v3 : Int32) (M : zM) : zV eI l G zLY zRY 3 yX10_isParted cX10_isParted 10 (some .boolean) 0 [(0, .ref 0), (1, .int v1), (2, .int v2), (3, .int v3)] [] M (fMd_isParted v1 v2 v3 M) := by
  rw [fMd_isParted]
  refine v_aload_n (pc := 0) dX10_isParted_0 rfl ?_
  refine v_getR (pc := 1) (q := 5) zk10 ly_0 rfl ry_0_5 tw_1031 dX10_isParted_1 ?_
  refine v_iload_n (pc := 4) dX10_isParted_4 rfl ?_
  refine v_iald (pc := 5) ly_4 dX10_isParted_5 (fun x1 => ?_)
  refine v_aload_n (pc := 6) dX10_isParted_6 rfl ?_
  refine v_getR (pc := 7) (q := 5) zk10 ly_0 rfl ry_0_5 tw_1031 dX10_isParted_7 ?_
  refine v_iload_n (pc := 10) dX10_isParted_10 rfl ?_
  refine v_iald (pc := 11) ly_4 dX10_isParted_11 (fun x2 => ?_)
  refine v_icmp_eq (pc := 12) 17 dX10_isParted_12 (by decide) ?_ ?_
  · refine v_iconst (pc := 17) 0 dX10_isParted_17 (by decide) ?_
    refine v_istore (pc := 18) dX10_isParted_18 (by decide) ?_
    refine v_iconst (pc := 20) 0 dX10_isParted_20 (by decide) ?_
    refine v_istore (pc := 21) dX10_isParted_21 (by decide) ?_
    exact v_sub (wMd_isParted_23 l G FU v1 v2 v3 0 0 M) rfl
  · refine v_iconst (pc := 15) 1 dX10_isParted_15 (by decide) ?_
    exact v_zret (pc := 16) dX10_isParted_16
theorem cMd_isParted (l : Launch) (G : zG) (v1 : Int32) (v2 : Int32) (v3 : Int32) (M : zM) : zC eI l G zLY zRY 3 yX10_isParted cX10_isParted 10 (some .boolean) [.ref 0, .int v1, .int v2, .int v3] M (fMd_isParted v1 v2 v3 M) := zC.of (by decide) (Nat.le_of_ble_eq_true rfl) (v_sub (wMd_isParted l G v1 v2 v3 M) rfl)
theorem dX10_parted_0 : decode cX10_parted 0 = .ok (.aload_n 0, 1) := by decide +kernel
theorem dX10_parted_1 : decode cX10_parted 1 = .ok (.iload_n 1, 1) := by decide +kernel
theorem dX10_parted_2 : decode cX10_parted 2 = .ok (.invokevirtual 115, 3) := by decide +kernel
theorem dX10_parted_5 : decode cX10_parted 5 = .ok (.ifCond .ne 27, 3) := by decide +kernel
theorem dX10_parted_8 : decode cX10_parted 8 = .ok (.aload_n 0, 1) := by decide +kernel
theorem dX10_parted_9 : decode cX10_parted 9 = .ok (.iload_n 2, 1) := by decide +kernel
theorem dX10_parted_10 : decode cX10_parted 10 = .ok (.invokevirtual 115, 3) := by decide +kernel
theorem dX10_parted_13 : decode cX10_parted 13 = .ok (.ifCond .ne 19, 3) := by decide +kernel
theorem dX10_parted_16 : decode cX10_parted 16 = .ok (.iload_n 3, 1) := by decide +kernel
theorem dX10_parted_17 : decode cX10_parted 17 = .ok (.ifCond .lt 15, 3) := by decide +kernel
theorem dX10_parted_20 : decode cX10_parted 20 = .ok (.iload_n 3, 1) := by decide +kernel
theorem dX10_parted_21 : decode cX10_parted 21 = .ok (.i2l, 1) := by decide +kernel
theorem dX10_parted_22 : decode cX10_parted 22 = .ok (.aload_n 0, 1) := by decide +kernel
theorem dX10_parted_23 : decode cX10_parted 23 = .ok (.getfield 106, 3) := by decide +kernel
theorem dX10_parted_26 : decode cX10_parted 26 = .ok (.lshr, 1) := by decide +kernel
theorem dX10_parted_27 : decode cX10_parted 27 = .ok (.lconst 0, 1) := by decide +kernel
theorem dX10_parted_28 : decode cX10_parted 28 = .ok (.lcmp, 1) := by decide +kernel
theorem dX10_parted_29 : decode cX10_parted 29 = .ok (.ifCond .eq 7, 3) := by decide +kernel
theorem dX10_parted_32 : decode cX10_parted 32 = .ok (.sipush (-1001), 3) := by decide +kernel
theorem dX10_parted_35 : decode cX10_parted 35 = .ok (.ireturn, 1) := by decide +kernel
theorem dX10_parted_36 : decode cX10_parted 36 = .ok (.iload_n 3, 1) := by decide +kernel
theorem dX10_parted_37 : decode cX10_parted 37 = .ok (.invokestatic 200, 3) := by decide +kernel
theorem dX10_parted_40 : decode cX10_parted 40 = .ok (.bipush 6, 2) := by decide +kernel
theorem dX10_parted_42 : decode cX10_parted 42 = .ok (.if_icmp .le 7, 3) := by decide +kernel
theorem dX10_parted_45 : decode cX10_parted 45 = .ok (.sipush (-1002), 3) := by decide +kernel
theorem dX10_parted_48 : decode cX10_parted 48 = .ok (.ireturn, 1) := by decide +kernel
theorem dX10_parted_49 : decode cX10_parted 49 = .ok (.aload_n 0, 1) := by decide +kernel
theorem dX10_parted_50 : decode cX10_parted 50 = .ok (.invokevirtual 159, 3) := by decide +kernel
theorem dX10_parted_53 : decode cX10_parted 53 = .ok (.aload_n 0, 1) := by decide +kernel
theorem dX10_parted_54 : decode cX10_parted 54 = .ok (.iload_n 1, 1) := by decide +kernel
theorem dX10_parted_55 : decode cX10_parted 55 = .ok (.iload_n 2, 1) := by decide +kernel
theorem dX10_parted_56 : decode cX10_parted 56 = .ok (.iload_n 3, 1) := by decide +kernel
theorem dX10_parted_57 : decode cX10_parted 57 = .ok (.invokevirtual 203, 3) := by decide +kernel
theorem dX10_parted_60 : decode cX10_parted 60 = .ok (.invokestatic 109, 3) := by decide +kernel
theorem dX10_parted_63 : decode cX10_parted 63 = .ok (.ireturn, 1) := by decide +kernel
theorem wMd_parted (l : Launch) (G : zG) (v1 : Int32) (v2 : Int32) (v3 : Int32) (M : zM) : zV eI l G zLY zRY 4 yX10_parted cX10_parted 4 (some .int) 0 [(0, .ref 0), (1, .int v1), (2, .int v2), (3, .int v3)] [] M (fMd_parted v1 v2 v3 M) := by
  rw [fMd_parted]
  refine v_aload_n (pc := 0) dX10_parted_0 rfl ?_
  refine v_iload_n (pc := 1) dX10_parted_1 rfl ?_
  refine v_callV (pc := 2) (As := [.int v1]) (cMd_noPost l G v1 M) zc_X10_noPost zk10 rfl ly_0 tw_1164 (by decide) (Nat.le_of_ble_eq_true rfl) dX10_parted_2 (fun r2 M1 => ?_)
  refine v_if_ne (pc := 5) 32 dX10_parted_5 (by decide) ?_ ?_
  · refine v_sipush (pc := 32) (-1001) dX10_parted_32 (by decide) ?_
    exact v_iret (pc := 35) dX10_parted_35
  · refine v_aload_n (pc := 8) dX10_parted_8 rfl ?_
    refine v_iload_n (pc := 9) dX10_parted_9 rfl ?_
    refine v_callV (pc := 10) (As := [.int v2]) (cMd_noPost l G v2 M1) zc_X10_noPost zk10 rfl ly_0 tw_1164 (by decide) (Nat.le_of_ble_eq_true rfl) dX10_parted_10 (fun r4 M3 => ?_)
    refine v_if_ne (pc := 13) 32 dX10_parted_13 (by decide) ?_ ?_
    · refine v_sipush (pc := 32) (-1001) dX10_parted_32 (by decide) ?_
      exact v_iret (pc := 35) dX10_parted_35
    · refine v_iload_n (pc := 16) dX10_parted_16 rfl ?_
      refine v_if_lt (pc := 17) 32 dX10_parted_17 (by decide) ?_ ?_
      · refine v_sipush (pc := 32) (-1001) dX10_parted_32 (by decide) ?_
        exact v_iret (pc := 35) dX10_parted_35
      · refine v_iload_n (pc := 20) dX10_parted_20 rfl ?_
        refine v_i2l (pc := 21) dX10_parted_21 ?_
        refine v_aload_n (pc := 22) dX10_parted_22 rfl ?_
        refine v_getI (pc := 23) (q := 1) zk10 ly_0 rfl tw_1027 dX10_parted_23 ?_
        refine v_lshr (pc := 26) dX10_parted_26 ?_
        refine v_lconst (pc := 27) 0 dX10_parted_27 (by decide) ?_
        refine v_lcmp (pc := 28) dX10_parted_28 ?_
        refine v_if_eq (pc := 29) 36 dX10_parted_29 (by decide) ?_ ?_
        · refine v_iload_n (pc := 36) dX10_parted_36 rfl ?_
          refine v_callS (pc := 37) (As := [.int v3]) (cMd_ones l G v3 M3) zc_X10_ones tw_1285 (by decide) (Nat.le_of_ble_eq_true rfl) dX10_parted_37 (fun r6 M5 => ?_)
          refine v_bipush (pc := 40) 6 dX10_parted_40 (by decide) ?_
          refine v_icmp_le (pc := 42) 49 dX10_parted_42 (by decide) ?_ ?_
          · refine v_aload_n (pc := 49) dX10_parted_49 rfl ?_
            refine v_callV (pc := 50) (As := []) (cMd_findTree l G  M5) zc_X10_findTree zk10 rfl ly_0 tw_1184 (by decide) (Nat.le_of_ble_eq_true rfl) dX10_parted_50 (fun _ M7 => ?_)
            skip
            refine v_aload_n (pc := 53) dX10_parted_53 rfl ?_
            refine v_iload_n (pc := 54) dX10_parted_54 rfl ?_
            refine v_iload_n (pc := 55) dX10_parted_55 rfl ?_
            refine v_iload_n (pc := 56) dX10_parted_56 rfl ?_
            refine v_callV (pc := 57) (As := [.int v1, .int v2, .int v3]) (cMd_isParted l G v1 v2 v3 M7) zc_X10_isParted zk10 rfl ly_0 tw_1288 (by decide) (Nat.le_of_ble_eq_true rfl) dX10_parted_57 (fun r9 M8 => ?_)
            refine v_callS (pc := 60) (As := [.int r9]) (cMd_bit l G r9 M8) zc_X10_bit tw_1196 (by decide) (Nat.le_of_ble_eq_true rfl) dX10_parted_60 (fun r11 M10 => ?_)
            exact v_iret (pc := 63) dX10_parted_63
          · refine v_sipush (pc := 45) (-1002) dX10_parted_45 (by decide) ?_
            exact v_iret (pc := 48) dX10_parted_48
        · refine v_sipush (pc := 32) (-1001) dX10_parted_32 (by decide) ?_
          exact v_iret (pc := 35) dX10_parted_35
theorem cMd_parted (l : Launch) (G : zG) (v1 : Int32) (v2 : Int32) (v3 : Int32) (M : zM) : zC eI l G zLY zRY 4 yX10_parted cX10_parted 4 (some .int) [.ref 0, .int v1, .int v2, .int v3] M (fMd_parted v1 v2 v3 M) := zC.of (by decide) (Nat.le_of_ble_eq_true rfl) (v_sub (wMd_parted l G v1 v2 v3 M) rfl)
theorem dX10_bookAt_0 : decode cX10_bookAt 0 = .ok (.bipush 26, 2) := by decide +kernel
theorem dX10_bookAt_2 : decode cX10_bookAt 2 = .ok (.bipush 12, 2) := by decide +kernel
theorem dX10_bookAt_4 : decode cX10_bookAt 4 = .ok (.iload_n 1, 1) := by decide +kernel
theorem dX10_bookAt_5 : decode cX10_bookAt 5 = .ok (.imul, 1) := by decide +kernel
theorem dX10_bookAt_6 : decode cX10_bookAt 6 = .ok (.iload_n 2, 1) := by decide +kernel
theorem dX10_bookAt_7 : decode cX10_bookAt 7 = .ok (.iadd, 1) := by decide +kernel
theorem dX10_bookAt_8 : decode cX10_bookAt 8 = .ok (.imul, 1) := by decide +kernel
theorem dX10_bookAt_9 : decode cX10_bookAt 9 = .ok (.ireturn, 1) := by decide +kernel
theorem wMd_bookAt (l : Launch) (G : zG) (v1 : Int32) (v2 : Int32) (M : zM) : zV eI l G zLY zRY 1 yX10_bookAt cX10_bookAt 3 (some .int) 0 [(0, .ref 0), (1, .int v1), (2, .int v2)] [] M (fMd_bookAt v1 v2 M) := by
  rw [fMd_bookAt]
  refine v_bipush (pc := 0) 26 dX10_bookAt_0 (by decide) ?_
  refine v_bipush (pc := 2) 12 dX10_bookAt_2 (by decide) ?_
  refine v_iload_n (pc := 4) dX10_bookAt_4 rfl ?_
  refine v_imul (pc := 5) dX10_bookAt_5 ?_
  refine v_iload_n (pc := 6) dX10_bookAt_6 rfl ?_
  refine v_iadd (pc := 7) dX10_bookAt_7 ?_
  refine v_imul (pc := 8) dX10_bookAt_8 ?_
  exact v_iret (pc := 9) dX10_bookAt_9
theorem cMd_bookAt (l : Launch) (G : zG) (v1 : Int32) (v2 : Int32) (M : zM) : zC eI l G zLY zRY 1 yX10_bookAt cX10_bookAt 3 (some .int) [.ref 0, .int v1, .int v2] M (fMd_bookAt v1 v2 M) := zC.of (by decide) (Nat.le_of_ble_eq_true rfl) (v_sub (wMd_bookAt l G v1 v2 M) rfl)
theorem dX10_isInBook_0 : decode cX10_isInBook 0 = .ok (.aload_n 0, 1) := by decide +kernel
theorem dX10_isInBook_1 : decode cX10_isInBook 1 = .ok (.getfield 58, 3) := by decide +kernel
theorem dX10_isInBook_4 : decode cX10_isInBook 4 = .ok (.iload_n 1, 1) := by decide +kernel
theorem dX10_isInBook_5 : decode cX10_isInBook 5 = .ok (.baload, 1) := by decide +kernel
theorem dX10_isInBook_6 : decode cX10_isInBook 6 = .ok (.ifCond .eq 25, 3) := by decide +kernel
theorem dX10_isInBook_9 : decode cX10_isInBook 9 = .ok (.iload_n 2, 1) := by decide +kernel
theorem dX10_isInBook_10 : decode cX10_isInBook 10 = .ok (.i2l, 1) := by decide +kernel
theorem dX10_isInBook_11 : decode cX10_isInBook 11 = .ok (.lconst 0, 1) := by decide +kernel
theorem dX10_isInBook_12 : decode cX10_isInBook 12 = .ok (.aload_n 0, 1) := by decide +kernel
theorem dX10_isInBook_13 : decode cX10_isInBook 13 = .ok (.getfield 62, 3) := by decide +kernel
theorem dX10_isInBook_16 : decode cX10_isInBook 16 = .ok (.iload_n 1, 1) := by decide +kernel
theorem dX10_isInBook_17 : decode cX10_isInBook 17 = .ok (.iaload, 1) := by decide +kernel
theorem dX10_isInBook_18 : decode cX10_isInBook 18 = .ok (.iconst 1, 1) := by decide +kernel
theorem dX10_isInBook_19 : decode cX10_isInBook 19 = .ok (.isub, 1) := by decide +kernel
theorem dX10_isInBook_20 : decode cX10_isInBook 20 = .ok (.i2l, 1) := by decide +kernel
theorem dX10_isInBook_21 : decode cX10_isInBook 21 = .ok (.invokestatic 102, 3) := by decide +kernel
theorem dX10_isInBook_24 : decode cX10_isInBook 24 = .ok (.ifCond .eq 7, 3) := by decide +kernel
theorem dX10_isInBook_27 : decode cX10_isInBook 27 = .ok (.iconst 1, 1) := by decide +kernel
theorem dX10_isInBook_28 : decode cX10_isInBook 28 = .ok (.goto 4, 3) := by decide +kernel
theorem dX10_isInBook_31 : decode cX10_isInBook 31 = .ok (.iconst 0, 1) := by decide +kernel
theorem dX10_isInBook_32 : decode cX10_isInBook 32 = .ok (.ireturn, 1) := by decide +kernel
theorem wMd_isInBook (l : Launch) (G : zG) (v1 : Int32) (v2 : Int32) (M : zM) : zV eI l G zLY zRY 2 yX10_isInBook cX10_isInBook 3 (some .boolean) 0 [(0, .ref 0), (1, .int v1), (2, .int v2)] [] M (fMd_isInBook v1 v2 M) := by
  rw [fMd_isInBook]
  refine v_aload_n (pc := 0) dX10_isInBook_0 rfl ?_
  refine v_getR (pc := 1) (q := 20) zk10 ly_0 rfl ry_0_20 tw_1046 dX10_isInBook_1 ?_
  refine v_iload_n (pc := 4) dX10_isInBook_4 rfl ?_
  refine v_zald (pc := 5) ly_17 dX10_isInBook_5 (fun x1 => ?_)
  refine v_if_eq (pc := 6) 31 dX10_isInBook_6 (by decide) ?_ ?_
  · refine v_iconst (pc := 31) 0 dX10_isInBook_31 (by decide) ?_
    exact v_zret (pc := 32) dX10_isInBook_32
  · refine v_iload_n (pc := 9) dX10_isInBook_9 rfl ?_
    refine v_i2l (pc := 10) dX10_isInBook_10 ?_
    refine v_lconst (pc := 11) 0 dX10_isInBook_11 (by decide) ?_
    refine v_aload_n (pc := 12) dX10_isInBook_12 rfl ?_
    refine v_getR (pc := 13) (q := 21) zk10 ly_0 rfl ry_0_21 tw_1047 dX10_isInBook_13 ?_
    refine v_iload_n (pc := 16) dX10_isInBook_16 rfl ?_
    refine v_iald (pc := 17) ly_18 dX10_isInBook_17 (fun x2 => ?_)
    refine v_iconst (pc := 18) 1 dX10_isInBook_18 (by decide) ?_
    refine v_isub (pc := 19) dX10_isInBook_19 ?_
    refine v_i2l (pc := 20) dX10_isInBook_20 ?_
    refine v_callS (pc := 21) (As := [.long v2.toInt64, .long 0, .long ((x2 - 1).toInt64)]) (cMd_in l G v2.toInt64 0 ((x2 - 1).toInt64) M) zc_X10_in tw_1153 (by decide) (Nat.le_of_ble_eq_true rfl) dX10_isInBook_21 (fun r4 M3 => ?_)
    refine v_if_eq (pc := 24) 31 dX10_isInBook_24 (by decide) ?_ ?_
    · refine v_iconst (pc := 31) 0 dX10_isInBook_31 (by decide) ?_
      exact v_zret (pc := 32) dX10_isInBook_32
    · refine v_iconst (pc := 27) 1 dX10_isInBook_27 (by decide) ?_
      refine v_goto (pc := 28) 32 dX10_isInBook_28 (by decide) ?_
      exact v_zret (pc := 32) dX10_isInBook_32
theorem cMd_isInBook (l : Launch) (G : zG) (v1 : Int32) (v2 : Int32) (M : zM) : zC eI l G zLY zRY 2 yX10_isInBook cX10_isInBook 3 (some .boolean) [.ref 0, .int v1, .int v2] M (fMd_isInBook v1 v2 M) := zC.of (by decide) (Nat.le_of_ble_eq_true rfl) (v_sub (wMd_isInBook l G v1 v2 M) rfl)
theorem dX10_checkOf_0 : decode cX10_checkOf 0 = .ok (.aload_n 0, 1) := by decide +kernel
theorem dX10_checkOf_1 : decode cX10_checkOf 1 = .ok (.getfield 65, 3) := by decide +kernel
theorem dX10_checkOf_4 : decode cX10_checkOf 4 = .ok (.bipush 12, 2) := by decide +kernel
theorem dX10_checkOf_6 : decode cX10_checkOf 6 = .ok (.iload_n 1, 1) := by decide +kernel
theorem dX10_checkOf_7 : decode cX10_checkOf 7 = .ok (.imul, 1) := by decide +kernel
theorem dX10_checkOf_8 : decode cX10_checkOf 8 = .ok (.iload_n 2, 1) := by decide +kernel
theorem dX10_checkOf_9 : decode cX10_checkOf 9 = .ok (.iadd, 1) := by decide +kernel
theorem dX10_checkOf_10 : decode cX10_checkOf 10 = .ok (.iaload, 1) := by decide +kernel
theorem dX10_checkOf_11 : decode cX10_checkOf 11 = .ok (.istore_n 3, 1) := by decide +kernel
theorem dX10_checkOf_12 : decode cX10_checkOf 12 = .ok (.bipush 7, 2) := by decide +kernel
theorem dX10_checkOf_14 : decode cX10_checkOf 14 = .ok (.iload_n 3, 1) := by decide +kernel
theorem dX10_checkOf_15 : decode cX10_checkOf 15 = .ok (.imul, 1) := by decide +kernel
theorem dX10_checkOf_16 : decode cX10_checkOf 16 = .ok (.istore 4, 2) := by decide +kernel
theorem dX10_checkOf_18 : decode cX10_checkOf 18 = .ok (.iconst 0, 1) := by decide +kernel
theorem dX10_checkOf_19 : decode cX10_checkOf 19 = .ok (.istore 5, 2) := by decide +kernel
theorem dX10_checkOf_21 : decode cX10_checkOf 21 = .ok (.iload 5, 2) := by decide +kernel
theorem dX10_checkOf_23 : decode cX10_checkOf 23 = .ok (.iload_n 3, 1) := by decide +kernel
theorem dX10_checkOf_24 : decode cX10_checkOf 24 = .ok (.if_icmp .ge 33, 3) := by decide +kernel
theorem dX10_checkOf_27 : decode cX10_checkOf 27 = .ok (.iload 4, 2) := by decide +kernel
theorem dX10_checkOf_29 : decode cX10_checkOf 29 = .ok (.aload_n 0, 1) := by decide +kernel
theorem dX10_checkOf_30 : decode cX10_checkOf 30 = .ok (.getfield 68, 3) := by decide +kernel
theorem dX10_checkOf_33 : decode cX10_checkOf 33 = .ok (.aload_n 0, 1) := by decide +kernel
theorem dX10_checkOf_34 : decode cX10_checkOf 34 = .ok (.iload_n 1, 1) := by decide +kernel
theorem dX10_checkOf_35 : decode cX10_checkOf 35 = .ok (.iload_n 2, 1) := by decide +kernel
theorem dX10_checkOf_36 : decode cX10_checkOf 36 = .ok (.invokevirtual 207, 3) := by decide +kernel
theorem dX10_checkOf_39 : decode cX10_checkOf 39 = .ok (.iload 5, 2) := by decide +kernel
theorem dX10_checkOf_41 : decode cX10_checkOf 41 = .ok (.iadd, 1) := by decide +kernel
theorem dX10_checkOf_42 : decode cX10_checkOf 42 = .ok (.iaload, 1) := by decide +kernel
theorem dX10_checkOf_43 : decode cX10_checkOf 43 = .ok (.iload 5, 2) := by decide +kernel
theorem dX10_checkOf_45 : decode cX10_checkOf 45 = .ok (.iconst 1, 1) := by decide +kernel
theorem dX10_checkOf_46 : decode cX10_checkOf 46 = .ok (.iadd, 1) := by decide +kernel
theorem dX10_checkOf_47 : decode cX10_checkOf 47 = .ok (.imul, 1) := by decide +kernel
theorem dX10_checkOf_48 : decode cX10_checkOf 48 = .ok (.iadd, 1) := by decide +kernel
theorem dX10_checkOf_49 : decode cX10_checkOf 49 = .ok (.istore 4, 2) := by decide +kernel
theorem dX10_checkOf_51 : decode cX10_checkOf 51 = .ok (.iinc 5 1, 3) := by decide +kernel
theorem dX10_checkOf_54 : decode cX10_checkOf 54 = .ok (.goto (-33), 3) := by decide +kernel
theorem dX10_checkOf_57 : decode cX10_checkOf 57 = .ok (.iload 4, 2) := by decide +kernel
theorem dX10_checkOf_59 : decode cX10_checkOf 59 = .ok (.bipush 101, 2) := by decide +kernel
theorem dX10_checkOf_61 : decode cX10_checkOf 61 = .ok (.irem, 1) := by decide +kernel
theorem dX10_checkOf_62 : decode cX10_checkOf 62 = .ok (.ireturn, 1) := by decide +kernel
theorem wMd_checkOf_21 (l : Launch) (G : zG) : ∀ (fuel : Nat) (v1 : Int32) (v2 : Int32) (v3 : Int32) (v4 : Int32) (v5 : Int32) (M : zM), zV eI l G zLY zRY 2 yX10_checkOf cX10_checkOf 6 (some .int) 21 [(0, .ref 0), (1, .int v1), (2, .int v2), (3, .int v3), (4, .int v4), (5, .int v5)] [] M (fMd_checkOf_21 fuel v1 v2 v3 v4 v5 M) := by
  intro fuel
  induction fuel with
  | zero => intro v1 v2 v3 v4 v5 M; exact v_none
  | succ fuel ih =>
    intro v1 v2 v3 v4 v5 M
    rw [fMd_checkOf_21]
    refine v_iload (pc := 21) dX10_checkOf_21 rfl ?_
    refine v_iload_n (pc := 23) dX10_checkOf_23 rfl ?_
    refine v_icmp_ge (pc := 24) 57 dX10_checkOf_24 (by decide) ?_ ?_
    · refine v_iload (pc := 57) dX10_checkOf_57 rfl ?_
      refine v_bipush (pc := 59) 101 dX10_checkOf_59 (by decide) ?_
      refine v_irem (pc := 61) dX10_checkOf_61 (fun z1 => ?_)
      exact v_iret (pc := 62) dX10_checkOf_62
    · refine v_iload (pc := 27) dX10_checkOf_27 rfl ?_
      refine v_aload_n (pc := 29) dX10_checkOf_29 rfl ?_
      refine v_getR (pc := 30) (q := 23) zk10 ly_0 rfl ry_0_23 tw_1049 dX10_checkOf_30 ?_
      refine v_aload_n (pc := 33) dX10_checkOf_33 rfl ?_
      refine v_iload_n (pc := 34) dX10_checkOf_34 rfl ?_
      refine v_iload_n (pc := 35) dX10_checkOf_35 rfl ?_
      refine v_callV (pc := 36) (As := [.int v1, .int v2]) (cMd_bookAt l G v1 v2 M) zc_X10_bookAt zk10 rfl ly_0 tw_1308 (by decide) (Nat.le_of_ble_eq_true rfl) dX10_checkOf_36 (fun r3 M2 => ?_)
      refine v_iload (pc := 39) dX10_checkOf_39 rfl ?_
      refine v_iadd (pc := 41) dX10_checkOf_41 ?_
      refine v_iald (pc := 42) ly_20 dX10_checkOf_42 (fun x4 => ?_)
      refine v_iload (pc := 43) dX10_checkOf_43 rfl ?_
      refine v_iconst (pc := 45) 1 dX10_checkOf_45 (by decide) ?_
      refine v_iadd (pc := 46) dX10_checkOf_46 ?_
      refine v_imul (pc := 47) dX10_checkOf_47 ?_
      refine v_iadd (pc := 48) dX10_checkOf_48 ?_
      refine v_istoreL (pc := 49) dX10_checkOf_49 (by decide) (fun u4_49 => ?_)
      refine v_iinc (pc := 51) 1 dX10_checkOf_51 rfl (by decide) (by decide) ?_
      refine v_goto (pc := 54) 21 dX10_checkOf_54 (by decide) ?_
      exact v_sub (ih v1 v2 v3 u4_49 (v5 + 1) M2) rfl
theorem wMd_checkOf (l : Launch) (G : zG) (v1 : Int32) (v2 : Int32) (M : zM) : zV eI l G zLY zRY 2 yX10_checkOf cX10_checkOf 6 (some .int) 0 [(0, .ref 0), (1, .int v1), (2, .int v2)] [] M (fMd_checkOf v1 v2 M) := by
  rw [fMd_checkOf]
  refine v_aload_n (pc := 0) dX10_checkOf_0 rfl ?_
  refine v_getR (pc := 1) (q := 22) zk10 ly_0 rfl ry_0_22 tw_1048 dX10_checkOf_1 ?_
  refine v_bipush (pc := 4) 12 dX10_checkOf_4 (by decide) ?_
  refine v_iload_n (pc := 6) dX10_checkOf_6 rfl ?_
  refine v_imul (pc := 7) dX10_checkOf_7 ?_
  refine v_iload_n (pc := 8) dX10_checkOf_8 rfl ?_
  refine v_iadd (pc := 9) dX10_checkOf_9 ?_
  refine v_iald (pc := 10) ly_19 dX10_checkOf_10 (fun x1 => ?_)
  refine v_istore_n (pc := 11) dX10_checkOf_11 (by decide) ?_
  refine v_bipush (pc := 12) 7 dX10_checkOf_12 (by decide) ?_
  refine v_iload_n (pc := 14) dX10_checkOf_14 rfl ?_
  refine v_imul (pc := 15) dX10_checkOf_15 ?_
  refine v_istoreL (pc := 16) dX10_checkOf_16 (by decide) (fun u4_16 => ?_)
  refine v_iconst (pc := 18) 0 dX10_checkOf_18 (by decide) ?_
  refine v_istore (pc := 19) dX10_checkOf_19 (by decide) ?_
  exact v_sub (wMd_checkOf_21 l G FU v1 v2 x1 u4_16 0 M) rfl
theorem cMd_checkOf (l : Launch) (G : zG) (v1 : Int32) (v2 : Int32) (M : zM) : zC eI l G zLY zRY 2 yX10_checkOf cX10_checkOf 6 (some .int) [.ref 0, .int v1, .int v2] M (fMd_checkOf v1 v2 M) := zC.of (by decide) (Nat.le_of_ble_eq_true rfl) (v_sub (wMd_checkOf l G v1 v2 M) rfl)
theorem dX10_isStale_0 : decode cX10_isStale 0 = .ok (.aload_n 0, 1) := by decide +kernel
theorem dX10_isStale_1 : decode cX10_isStale 1 = .ok (.iload_n 1, 1) := by decide +kernel
theorem dX10_isStale_2 : decode cX10_isStale 2 = .ok (.iload_n 2, 1) := by decide +kernel
theorem dX10_isStale_3 : decode cX10_isStale 3 = .ok (.invokevirtual 210, 3) := by decide +kernel
theorem dX10_isStale_6 : decode cX10_isStale 6 = .ok (.istore_n 3, 1) := by decide +kernel
theorem dX10_isStale_7 : decode cX10_isStale 7 = .ok (.iload_n 3, 1) := by decide +kernel
theorem dX10_isStale_8 : decode cX10_isStale 8 = .ok (.aload_n 0, 1) := by decide +kernel
theorem dX10_isStale_9 : decode cX10_isStale 9 = .ok (.iload_n 2, 1) := by decide +kernel
theorem dX10_isStale_10 : decode cX10_isStale 10 = .ok (.invokevirtual 115, 3) := by decide +kernel
theorem dX10_isStale_13 : decode cX10_isStale 13 = .ok (.ifCond .ne 7, 3) := by decide +kernel
theorem dX10_isStale_16 : decode cX10_isStale 16 = .ok (.iconst 1, 1) := by decide +kernel
theorem dX10_isStale_17 : decode cX10_isStale 17 = .ok (.goto 4, 3) := by decide +kernel
theorem dX10_isStale_20 : decode cX10_isStale 20 = .ok (.iconst 0, 1) := by decide +kernel
theorem dX10_isStale_21 : decode cX10_isStale 21 = .ok (.if_icmp .eq 5, 3) := by decide +kernel
theorem dX10_isStale_24 : decode cX10_isStale 24 = .ok (.iconst 1, 1) := by decide +kernel
theorem dX10_isStale_25 : decode cX10_isStale 25 = .ok (.ireturn, 1) := by decide +kernel
theorem dX10_isStale_26 : decode cX10_isStale 26 = .ok (.aload_n 0, 1) := by decide +kernel
theorem dX10_isStale_27 : decode cX10_isStale 27 = .ok (.getfield 65, 3) := by decide +kernel
theorem dX10_isStale_30 : decode cX10_isStale 30 = .ok (.bipush 12, 2) := by decide +kernel
theorem dX10_isStale_32 : decode cX10_isStale 32 = .ok (.iload_n 1, 1) := by decide +kernel
theorem dX10_isStale_33 : decode cX10_isStale 33 = .ok (.imul, 1) := by decide +kernel
theorem dX10_isStale_34 : decode cX10_isStale 34 = .ok (.iload_n 2, 1) := by decide +kernel
theorem dX10_isStale_35 : decode cX10_isStale 35 = .ok (.iadd, 1) := by decide +kernel
theorem dX10_isStale_36 : decode cX10_isStale 36 = .ok (.iaload, 1) := by decide +kernel
theorem dX10_isStale_37 : decode cX10_isStale 37 = .ok (.istore 4, 2) := by decide +kernel
theorem dX10_isStale_39 : decode cX10_isStale 39 = .ok (.iload_n 3, 1) := by decide +kernel
theorem dX10_isStale_40 : decode cX10_isStale 40 = .ok (.ifCond .eq 18, 3) := by decide +kernel
theorem dX10_isStale_43 : decode cX10_isStale 43 = .ok (.iload 4, 2) := by decide +kernel
theorem dX10_isStale_45 : decode cX10_isStale 45 = .ok (.aload_n 0, 1) := by decide +kernel
theorem dX10_isStale_46 : decode cX10_isStale 46 = .ok (.getfield 43, 3) := by decide +kernel
theorem dX10_isStale_49 : decode cX10_isStale 49 = .ok (.iload_n 2, 1) := by decide +kernel
theorem dX10_isStale_50 : decode cX10_isStale 50 = .ok (.iaload, 1) := by decide +kernel
theorem dX10_isStale_51 : decode cX10_isStale 51 = .ok (.if_icmp .eq 7, 3) := by decide +kernel
theorem dX10_isStale_54 : decode cX10_isStale 54 = .ok (.iconst 1, 1) := by decide +kernel
theorem dX10_isStale_55 : decode cX10_isStale 55 = .ok (.goto 4, 3) := by decide +kernel
theorem dX10_isStale_58 : decode cX10_isStale 58 = .ok (.iconst 0, 1) := by decide +kernel
theorem dX10_isStale_59 : decode cX10_isStale 59 = .ok (.istore 5, 2) := by decide +kernel
theorem dX10_isStale_61 : decode cX10_isStale 61 = .ok (.iconst 0, 1) := by decide +kernel
theorem dX10_isStale_62 : decode cX10_isStale 62 = .ok (.istore 6, 2) := by decide +kernel
theorem dX10_isStale_64 : decode cX10_isStale 64 = .ok (.iload 6, 2) := by decide +kernel
theorem dX10_isStale_66 : decode cX10_isStale 66 = .ok (.iload 4, 2) := by decide +kernel
theorem dX10_isStale_68 : decode cX10_isStale 68 = .ok (.if_icmp .ge 54, 3) := by decide +kernel
theorem dX10_isStale_71 : decode cX10_isStale 71 = .ok (.iload_n 3, 1) := by decide +kernel
theorem dX10_isStale_72 : decode cX10_isStale 72 = .ok (.ifCond .eq 50, 3) := by decide +kernel
theorem dX10_isStale_75 : decode cX10_isStale 75 = .ok (.iload 5, 2) := by decide +kernel
theorem dX10_isStale_77 : decode cX10_isStale 77 = .ok (.ifCond .ne 45, 3) := by decide +kernel
theorem dX10_isStale_80 : decode cX10_isStale 80 = .ok (.aload_n 0, 1) := by decide +kernel
theorem dX10_isStale_81 : decode cX10_isStale 81 = .ok (.getfield 68, 3) := by decide +kernel
theorem dX10_isStale_84 : decode cX10_isStale 84 = .ok (.aload_n 0, 1) := by decide +kernel
theorem dX10_isStale_85 : decode cX10_isStale 85 = .ok (.iload_n 1, 1) := by decide +kernel
theorem dX10_isStale_86 : decode cX10_isStale 86 = .ok (.iload_n 2, 1) := by decide +kernel
theorem dX10_isStale_87 : decode cX10_isStale 87 = .ok (.invokevirtual 207, 3) := by decide +kernel
theorem dX10_isStale_90 : decode cX10_isStale 90 = .ok (.iload 6, 2) := by decide +kernel
theorem dX10_isStale_92 : decode cX10_isStale 92 = .ok (.iadd, 1) := by decide +kernel
theorem dX10_isStale_93 : decode cX10_isStale 93 = .ok (.iaload, 1) := by decide +kernel
theorem dX10_isStale_94 : decode cX10_isStale 94 = .ok (.aload_n 0, 1) := by decide +kernel
theorem dX10_isStale_95 : decode cX10_isStale 95 = .ok (.getfield 46, 3) := by decide +kernel
theorem dX10_isStale_98 : decode cX10_isStale 98 = .ok (.bipush 26, 2) := by decide +kernel
theorem dX10_isStale_100 : decode cX10_isStale 100 = .ok (.iload_n 2, 1) := by decide +kernel
theorem dX10_isStale_101 : decode cX10_isStale 101 = .ok (.imul, 1) := by decide +kernel
theorem dX10_isStale_102 : decode cX10_isStale 102 = .ok (.iload 6, 2) := by decide +kernel
theorem dX10_isStale_104 : decode cX10_isStale 104 = .ok (.iadd, 1) := by decide +kernel
theorem dX10_isStale_105 : decode cX10_isStale 105 = .ok (.iaload, 1) := by decide +kernel
theorem dX10_isStale_106 : decode cX10_isStale 106 = .ok (.if_icmp .eq 7, 3) := by decide +kernel
theorem dX10_isStale_109 : decode cX10_isStale 109 = .ok (.iconst 1, 1) := by decide +kernel
theorem dX10_isStale_110 : decode cX10_isStale 110 = .ok (.goto 4, 3) := by decide +kernel
theorem dX10_isStale_113 : decode cX10_isStale 113 = .ok (.iconst 0, 1) := by decide +kernel
theorem dX10_isStale_114 : decode cX10_isStale 114 = .ok (.istore 5, 2) := by decide +kernel
theorem dX10_isStale_116 : decode cX10_isStale 116 = .ok (.iinc 6 1, 3) := by decide +kernel
theorem dX10_isStale_119 : decode cX10_isStale 119 = .ok (.goto (-55), 3) := by decide +kernel
theorem dX10_isStale_122 : decode cX10_isStale 122 = .ok (.iload 5, 2) := by decide +kernel
theorem dX10_isStale_124 : decode cX10_isStale 124 = .ok (.ireturn, 1) := by decide +kernel
theorem wMd_isStale_64 (l : Launch) (G : zG) : ∀ (fuel : Nat) (v1 : Int32) (v2 : Int32) (v3 : Int32) (v4 : Int32) (v5 : Int32) (v6 : Int32) (M : zM), zV eI l G zLY zRY 3 yX10_isStale cX10_isStale 7 (some .boolean) 64 [(0, .ref 0), (1, .int v1), (2, .int v2), (3, .int v3), (4, .int v4), (5, .int v5), (6, .int v6)] [] M (fMd_isStale_64 fuel v1 v2 v3 v4 v5 v6 M) := by
  intro fuel
  induction fuel with
  | zero => intro v1 v2 v3 v4 v5 v6 M; exact v_none
  | succ fuel ih =>
    intro v1 v2 v3 v4 v5 v6 M
    rw [fMd_isStale_64]
    refine v_iload (pc := 64) dX10_isStale_64 rfl ?_
    refine v_iload (pc := 66) dX10_isStale_66 rfl ?_
    refine v_icmp_ge (pc := 68) 122 dX10_isStale_68 (by decide) ?_ ?_
    · refine v_iload (pc := 122) dX10_isStale_122 rfl ?_
      exact v_zret (pc := 124) dX10_isStale_124
    · refine v_iload_n (pc := 71) dX10_isStale_71 rfl ?_
      refine v_if_eq (pc := 72) 122 dX10_isStale_72 (by decide) ?_ ?_
      · refine v_iload (pc := 122) dX10_isStale_122 rfl ?_
        exact v_zret (pc := 124) dX10_isStale_124
      · refine v_iload (pc := 75) dX10_isStale_75 rfl ?_
        refine v_if_ne (pc := 77) 122 dX10_isStale_77 (by decide) ?_ ?_
        · refine v_iload (pc := 122) dX10_isStale_122 rfl ?_
          exact v_zret (pc := 124) dX10_isStale_124
        · refine v_aload_n (pc := 80) dX10_isStale_80 rfl ?_
          refine v_getR (pc := 81) (q := 23) zk10 ly_0 rfl ry_0_23 tw_1049 dX10_isStale_81 ?_
          refine v_aload_n (pc := 84) dX10_isStale_84 rfl ?_
          refine v_iload_n (pc := 85) dX10_isStale_85 rfl ?_
          refine v_iload_n (pc := 86) dX10_isStale_86 rfl ?_
          refine v_callV (pc := 87) (As := [.int v1, .int v2]) (cMd_bookAt l G v1 v2 M) zc_X10_bookAt zk10 rfl ly_0 tw_1308 (by decide) (Nat.le_of_ble_eq_true rfl) dX10_isStale_87 (fun r2 M1 => ?_)
          refine v_iload (pc := 90) dX10_isStale_90 rfl ?_
          refine v_iadd (pc := 92) dX10_isStale_92 ?_
          refine v_iald (pc := 93) ly_20 dX10_isStale_93 (fun x3 => ?_)
          refine v_aload_n (pc := 94) dX10_isStale_94 rfl ?_
          refine v_getR (pc := 95) (q := 16) zk10 ly_0 rfl ry_0_16 tw_1042 dX10_isStale_95 ?_
          refine v_bipush (pc := 98) 26 dX10_isStale_98 (by decide) ?_
          refine v_iload_n (pc := 100) dX10_isStale_100 rfl ?_
          refine v_imul (pc := 101) dX10_isStale_101 ?_
          refine v_iload (pc := 102) dX10_isStale_102 rfl ?_
          refine v_iadd (pc := 104) dX10_isStale_104 ?_
          refine v_iald (pc := 105) ly_13 dX10_isStale_105 (fun x4 => ?_)
          refine v_icmp_eq (pc := 106) 113 dX10_isStale_106 (by decide) ?_ ?_
          · refine v_iconst (pc := 113) 0 dX10_isStale_113 (by decide) ?_
            refine v_istore (pc := 114) dX10_isStale_114 (by decide) ?_
            refine v_iinc (pc := 116) 1 dX10_isStale_116 rfl (by decide) (by decide) ?_
            refine v_goto (pc := 119) 64 dX10_isStale_119 (by decide) ?_
            exact v_sub (ih v1 v2 v3 v4 0 (v6 + 1) M1) rfl
          · refine v_iconst (pc := 109) 1 dX10_isStale_109 (by decide) ?_
            refine v_goto (pc := 110) 114 dX10_isStale_110 (by decide) ?_
            refine v_istore (pc := 114) dX10_isStale_114 (by decide) ?_
            refine v_iinc (pc := 116) 1 dX10_isStale_116 rfl (by decide) (by decide) ?_
            refine v_goto (pc := 119) 64 dX10_isStale_119 (by decide) ?_
            exact v_sub (ih v1 v2 v3 v4 1 (v6 + 1) M1) rfl
theorem wMd_isStale_21 (l : Launch) (G : zG) (v1 : Int32) (v2 : Int32) (v3 : Int32) (vs0 : Int32) (vs1 : Int32) (M : zM) : zV eI l G zLY zRY 3 yX10_isStale cX10_isStale 7 (some .boolean) 21 [(0, .ref 0), (1, .int v1), (2, .int v2), (3, .int v3)] [.int vs0, .int vs1] M (fMd_isStale_21 v1 v2 v3 vs0 vs1 M) := by
  rw [fMd_isStale_21]
  refine v_icmp_eq (pc := 21) 26 dX10_isStale_21 (by decide) ?_ ?_
  · refine v_aload_n (pc := 26) dX10_isStale_26 rfl ?_
    refine v_getR (pc := 27) (q := 22) zk10 ly_0 rfl ry_0_22 tw_1048 dX10_isStale_27 ?_
    refine v_bipush (pc := 30) 12 dX10_isStale_30 (by decide) ?_
    refine v_iload_n (pc := 32) dX10_isStale_32 rfl ?_
    refine v_imul (pc := 33) dX10_isStale_33 ?_
    refine v_iload_n (pc := 34) dX10_isStale_34 rfl ?_
    refine v_iadd (pc := 35) dX10_isStale_35 ?_
    refine v_iald (pc := 36) ly_19 dX10_isStale_36 (fun x1 => ?_)
    refine v_istore (pc := 37) dX10_isStale_37 (by decide) ?_
    refine v_iload_n (pc := 39) dX10_isStale_39 rfl ?_
    refine v_if_eq (pc := 40) 58 dX10_isStale_40 (by decide) ?_ ?_
    · refine v_iconst (pc := 58) 0 dX10_isStale_58 (by decide) ?_
      refine v_istore (pc := 59) dX10_isStale_59 (by decide) ?_
      refine v_iconst (pc := 61) 0 dX10_isStale_61 (by decide) ?_
      refine v_istore (pc := 62) dX10_isStale_62 (by decide) ?_
      exact v_sub (wMd_isStale_64 l G FU v1 v2 v3 x1 0 0 M) rfl
    · refine v_iload (pc := 43) dX10_isStale_43 rfl ?_
      refine v_aload_n (pc := 45) dX10_isStale_45 rfl ?_
      refine v_getR (pc := 46) (q := 15) zk10 ly_0 rfl ry_0_15 tw_1041 dX10_isStale_46 ?_
      refine v_iload_n (pc := 49) dX10_isStale_49 rfl ?_
      refine v_iald (pc := 50) ly_12 dX10_isStale_50 (fun x2 => ?_)
      refine v_icmp_eq (pc := 51) 58 dX10_isStale_51 (by decide) ?_ ?_
      · refine v_iconst (pc := 58) 0 dX10_isStale_58 (by decide) ?_
        refine v_istore (pc := 59) dX10_isStale_59 (by decide) ?_
        refine v_iconst (pc := 61) 0 dX10_isStale_61 (by decide) ?_
        refine v_istore (pc := 62) dX10_isStale_62 (by decide) ?_
        exact v_sub (wMd_isStale_64 l G FU v1 v2 v3 x1 0 0 M) rfl
      · refine v_iconst (pc := 54) 1 dX10_isStale_54 (by decide) ?_
        refine v_goto (pc := 55) 59 dX10_isStale_55 (by decide) ?_
        refine v_istore (pc := 59) dX10_isStale_59 (by decide) ?_
        refine v_iconst (pc := 61) 0 dX10_isStale_61 (by decide) ?_
        refine v_istore (pc := 62) dX10_isStale_62 (by decide) ?_
        exact v_sub (wMd_isStale_64 l G FU v1 v2 v3 x1 1 0 M) rfl
  · refine v_iconst (pc := 24) 1 dX10_isStale_24 (by decide) ?_
    exact v_zret (pc := 25) dX10_isStale_25
theorem wMd_isStale (l : Launch) (G : zG) (v1 : Int32) (v2 : Int32) (M : zM) : zV eI l G zLY zRY 3 yX10_isStale cX10_isStale 7 (some .boolean) 0 [(0, .ref 0), (1, .int v1), (2, .int v2)] [] M (fMd_isStale v1 v2 M) := by
  rw [fMd_isStale]
  refine v_aload_n (pc := 0) dX10_isStale_0 rfl ?_
  refine v_iload_n (pc := 1) dX10_isStale_1 rfl ?_
  refine v_iload_n (pc := 2) dX10_isStale_2 rfl ?_
  refine v_callV (pc := 3) (As := [.int v1, .int v2]) (cMd_isInBook l G v1 v2 M) zc_X10_isInBook zk10 rfl ly_0 tw_1304 (by decide) (Nat.le_of_ble_eq_true rfl) dX10_isStale_3 (fun r2 M1 => ?_)
  refine v_istore_n (pc := 6) dX10_isStale_6 (by decide) ?_
  refine v_iload_n (pc := 7) dX10_isStale_7 rfl ?_
  refine v_aload_n (pc := 8) dX10_isStale_8 rfl ?_
  refine v_iload_n (pc := 9) dX10_isStale_9 rfl ?_
  refine v_callV (pc := 10) (As := [.int v2]) (cMd_noPost l G v2 M1) zc_X10_noPost zk10 rfl ly_0 tw_1164 (by decide) (Nat.le_of_ble_eq_true rfl) dX10_isStale_10 (fun r4 M3 => ?_)
  refine v_if_ne (pc := 13) 20 dX10_isStale_13 (by decide) ?_ ?_
  · refine v_iconst (pc := 20) 0 dX10_isStale_20 (by decide) ?_
    exact v_sub (wMd_isStale_21 l G v1 v2 r2 0 r2 M3) rfl
  · refine v_iconst (pc := 16) 1 dX10_isStale_16 (by decide) ?_
    refine v_goto (pc := 17) 21 dX10_isStale_17 (by decide) ?_
    exact v_sub (wMd_isStale_21 l G v1 v2 r2 1 r2 M3) rfl
theorem cMd_isStale (l : Launch) (G : zG) (v1 : Int32) (v2 : Int32) (M : zM) : zC eI l G zLY zRY 3 yX10_isStale cX10_isStale 7 (some .boolean) [.ref 0, .int v1, .int v2] M (fMd_isStale v1 v2 M) := zC.of (by decide) (Nat.le_of_ble_eq_true rfl) (v_sub (wMd_isStale l G v1 v2 M) rfl)
theorem dX10_staleSet_0 : decode cX10_staleSet 0 = .ok (.aload_n 0, 1) := by decide +kernel
theorem dX10_staleSet_1 : decode cX10_staleSet 1 = .ok (.iload_n 1, 1) := by decide +kernel
theorem dX10_staleSet_2 : decode cX10_staleSet 2 = .ok (.invokevirtual 188, 3) := by decide +kernel
theorem dX10_staleSet_5 : decode cX10_staleSet 5 = .ok (.iconst 0, 1) := by decide +kernel
theorem dX10_staleSet_6 : decode cX10_staleSet 6 = .ok (.istore_n 2, 1) := by decide +kernel
theorem dX10_staleSet_7 : decode cX10_staleSet 7 = .ok (.iconst 0, 1) := by decide +kernel
theorem dX10_staleSet_8 : decode cX10_staleSet 8 = .ok (.istore_n 3, 1) := by decide +kernel
theorem dX10_staleSet_9 : decode cX10_staleSet 9 = .ok (.iload_n 3, 1) := by decide +kernel
theorem dX10_staleSet_10 : decode cX10_staleSet 10 = .ok (.bipush 12, 2) := by decide +kernel
theorem dX10_staleSet_12 : decode cX10_staleSet 12 = .ok (.if_icmp .ge 28, 3) := by decide +kernel
theorem dX10_staleSet_15 : decode cX10_staleSet 15 = .ok (.iload_n 2, 1) := by decide +kernel
theorem dX10_staleSet_16 : decode cX10_staleSet 16 = .ok (.aload_n 0, 1) := by decide +kernel
theorem dX10_staleSet_17 : decode cX10_staleSet 17 = .ok (.iload_n 1, 1) := by decide +kernel
theorem dX10_staleSet_18 : decode cX10_staleSet 18 = .ok (.iload_n 3, 1) := by decide +kernel
theorem dX10_staleSet_19 : decode cX10_staleSet 19 = .ok (.invokevirtual 214, 3) := by decide +kernel
theorem dX10_staleSet_22 : decode cX10_staleSet 22 = .ok (.ifCond .eq 9, 3) := by decide +kernel
theorem dX10_staleSet_25 : decode cX10_staleSet 25 = .ok (.iconst 1, 1) := by decide +kernel
theorem dX10_staleSet_26 : decode cX10_staleSet 26 = .ok (.iload_n 3, 1) := by decide +kernel
theorem dX10_staleSet_27 : decode cX10_staleSet 27 = .ok (.ishl, 1) := by decide +kernel
theorem dX10_staleSet_28 : decode cX10_staleSet 28 = .ok (.goto 4, 3) := by decide +kernel
theorem dX10_staleSet_31 : decode cX10_staleSet 31 = .ok (.iconst 0, 1) := by decide +kernel
theorem dX10_staleSet_32 : decode cX10_staleSet 32 = .ok (.ior, 1) := by decide +kernel
theorem dX10_staleSet_33 : decode cX10_staleSet 33 = .ok (.istore_n 2, 1) := by decide +kernel
theorem dX10_staleSet_34 : decode cX10_staleSet 34 = .ok (.iinc 3 1, 3) := by decide +kernel
theorem dX10_staleSet_37 : decode cX10_staleSet 37 = .ok (.goto (-28), 3) := by decide +kernel
theorem dX10_staleSet_40 : decode cX10_staleSet 40 = .ok (.iload_n 2, 1) := by decide +kernel
theorem dX10_staleSet_41 : decode cX10_staleSet 41 = .ok (.ireturn, 1) := by decide +kernel
theorem wMd_staleSet_9 (l : Launch) (G : zG) : ∀ (fuel : Nat) (v1 : Int32) (v2 : Int32) (v3 : Int32) (M : zM), zV eI l G zLY zRY 6 yX10_staleSet cX10_staleSet 4 (some .int) 9 [(0, .ref 0), (1, .int v1), (2, .int v2), (3, .int v3)] [] M (fMd_staleSet_9 fuel v1 v2 v3 M) := by
  intro fuel
  induction fuel with
  | zero => intro v1 v2 v3 M; exact v_none
  | succ fuel ih =>
    intro v1 v2 v3 M
    rw [fMd_staleSet_9]
    refine v_iload_n (pc := 9) dX10_staleSet_9 rfl ?_
    refine v_bipush (pc := 10) 12 dX10_staleSet_10 (by decide) ?_
    refine v_icmp_ge (pc := 12) 40 dX10_staleSet_12 (by decide) ?_ ?_
    · refine v_iload_n (pc := 40) dX10_staleSet_40 rfl ?_
      exact v_iret (pc := 41) dX10_staleSet_41
    · refine v_iload_n (pc := 15) dX10_staleSet_15 rfl ?_
      refine v_aload_n (pc := 16) dX10_staleSet_16 rfl ?_
      refine v_iload_n (pc := 17) dX10_staleSet_17 rfl ?_
      refine v_iload_n (pc := 18) dX10_staleSet_18 rfl ?_
      refine v_callV (pc := 19) (As := [.int v1, .int v3]) (cMd_isStale l G v1 v3 M) zc_X10_isStale zk10 rfl ly_0 tw_1300 (by decide) (Nat.le_of_ble_eq_true rfl) dX10_staleSet_19 (fun r2 M1 => ?_)
      refine v_if_eq (pc := 22) 31 dX10_staleSet_22 (by decide) ?_ ?_
      · refine v_iconst (pc := 31) 0 dX10_staleSet_31 (by decide) ?_
        refine v_ior (pc := 32) dX10_staleSet_32 ?_
        refine v_istore_nL (pc := 33) dX10_staleSet_33 (by decide) (fun u2_33 => ?_)
        refine v_iinc (pc := 34) 1 dX10_staleSet_34 rfl (by decide) (by decide) ?_
        refine v_goto (pc := 37) 9 dX10_staleSet_37 (by decide) ?_
        exact v_sub (ih v1 u2_33 (v3 + 1) M1) rfl
      · refine v_iconst (pc := 25) 1 dX10_staleSet_25 (by decide) ?_
        refine v_iload_n (pc := 26) dX10_staleSet_26 rfl ?_
        refine v_ishl (pc := 27) dX10_staleSet_27 ?_
        refine v_goto (pc := 28) 32 dX10_staleSet_28 (by decide) ?_
        refine v_ior (pc := 32) dX10_staleSet_32 ?_
        refine v_istore_nL (pc := 33) dX10_staleSet_33 (by decide) (fun u2_33 => ?_)
        refine v_iinc (pc := 34) 1 dX10_staleSet_34 rfl (by decide) (by decide) ?_
        refine v_goto (pc := 37) 9 dX10_staleSet_37 (by decide) ?_
        exact v_sub (ih v1 u2_33 (v3 + 1) M1) rfl
theorem wMd_staleSet (l : Launch) (G : zG) (v1 : Int32) (M : zM) : zV eI l G zLY zRY 6 yX10_staleSet cX10_staleSet 4 (some .int) 0 [(0, .ref 0), (1, .int v1)] [] M (fMd_staleSet v1 M) := by
  rw [fMd_staleSet]
  refine v_aload_n (pc := 0) dX10_staleSet_0 rfl ?_
  refine v_iload_n (pc := 1) dX10_staleSet_1 rfl ?_
  refine v_callV (pc := 2) (As := [.int v1]) (cMd_findNames l G v1 M) zc_X10_findNames zk10 rfl ly_0 tw_1232 (by decide) (Nat.le_of_ble_eq_true rfl) dX10_staleSet_2 (fun _ M1 => ?_)
  skip
  refine v_iconst (pc := 5) 0 dX10_staleSet_5 (by decide) ?_
  refine v_istore_n (pc := 6) dX10_staleSet_6 (by decide) ?_
  refine v_iconst (pc := 7) 0 dX10_staleSet_7 (by decide) ?_
  refine v_istore_n (pc := 8) dX10_staleSet_8 (by decide) ?_
  exact v_sub (wMd_staleSet_9 l G FU v1 0 0 M1) rfl
theorem cMd_staleSet (l : Launch) (G : zG) (v1 : Int32) (M : zM) : zC eI l G zLY zRY 6 yX10_staleSet cX10_staleSet 4 (some .int) [.ref 0, .int v1] M (fMd_staleSet v1 M) := zC.of (by decide) (Nat.le_of_ble_eq_true rfl) (v_sub (wMd_staleSet l G v1 M) rfl)
theorem dX10_learn_0 : decode cX10_learn 0 = .ok (.iload_n 1, 1) := by decide +kernel
theorem dX10_learn_1 : decode cX10_learn 1 = .ok (.i2l, 1) := by decide +kernel
theorem dX10_learn_2 : decode cX10_learn 2 = .ok (.lconst 0, 1) := by decide +kernel
theorem dX10_learn_3 : decode cX10_learn 3 = .ok (.ldc2_w 191, 3) := by decide +kernel
theorem dX10_learn_6 : decode cX10_learn 6 = .ok (.invokestatic 102, 3) := by decide +kernel
theorem dX10_learn_9 : decode cX10_learn 9 = .ok (.ifCond .ne 7, 3) := by decide +kernel
theorem dX10_learn_12 : decode cX10_learn 12 = .ok (.sipush (-1002), 3) := by decide +kernel
theorem dX10_learn_15 : decode cX10_learn 15 = .ok (.ireturn, 1) := by decide +kernel
theorem dX10_learn_16 : decode cX10_learn 16 = .ok (.aload_n 0, 1) := by decide +kernel
theorem dX10_learn_17 : decode cX10_learn 17 = .ok (.iload_n 1, 1) := by decide +kernel
theorem dX10_learn_18 : decode cX10_learn 18 = .ok (.invokevirtual 217, 3) := by decide +kernel
theorem dX10_learn_21 : decode cX10_learn 21 = .ok (.invokestatic 200, 3) := by decide +kernel
theorem dX10_learn_24 : decode cX10_learn 24 = .ok (.istore_n 2, 1) := by decide +kernel
theorem dX10_learn_25 : decode cX10_learn 25 = .ok (.aload_n 0, 1) := by decide +kernel
theorem dX10_learn_26 : decode cX10_learn 26 = .ok (.getfield 58, 3) := by decide +kernel
theorem dX10_learn_29 : decode cX10_learn 29 = .ok (.iload_n 1, 1) := by decide +kernel
theorem dX10_learn_30 : decode cX10_learn 30 = .ok (.iconst 1, 1) := by decide +kernel
theorem dX10_learn_31 : decode cX10_learn 31 = .ok (.bastore, 1) := by decide +kernel
theorem dX10_learn_32 : decode cX10_learn 32 = .ok (.aload_n 0, 1) := by decide +kernel
theorem dX10_learn_33 : decode cX10_learn 33 = .ok (.getfield 62, 3) := by decide +kernel
theorem dX10_learn_36 : decode cX10_learn 36 = .ok (.iload_n 1, 1) := by decide +kernel
theorem dX10_learn_37 : decode cX10_learn 37 = .ok (.aload_n 0, 1) := by decide +kernel
theorem dX10_learn_38 : decode cX10_learn 38 = .ok (.getfield 99, 3) := by decide +kernel
theorem dX10_learn_41 : decode cX10_learn 41 = .ok (.iastore, 1) := by decide +kernel
theorem dX10_learn_42 : decode cX10_learn 42 = .ok (.iconst 0, 1) := by decide +kernel
theorem dX10_learn_43 : decode cX10_learn 43 = .ok (.istore_n 3, 1) := by decide +kernel
theorem dX10_learn_44 : decode cX10_learn 44 = .ok (.iload_n 3, 1) := by decide +kernel
theorem dX10_learn_45 : decode cX10_learn 45 = .ok (.aload_n 0, 1) := by decide +kernel
theorem dX10_learn_46 : decode cX10_learn 46 = .ok (.getfield 99, 3) := by decide +kernel
theorem dX10_learn_49 : decode cX10_learn 49 = .ok (.if_icmp .ge 89, 3) := by decide +kernel
theorem dX10_learn_52 : decode cX10_learn 52 = .ok (.aload_n 0, 1) := by decide +kernel
theorem dX10_learn_53 : decode cX10_learn 53 = .ok (.getfield 65, 3) := by decide +kernel
theorem dX10_learn_56 : decode cX10_learn 56 = .ok (.bipush 12, 2) := by decide +kernel
theorem dX10_learn_58 : decode cX10_learn 58 = .ok (.iload_n 1, 1) := by decide +kernel
theorem dX10_learn_59 : decode cX10_learn 59 = .ok (.imul, 1) := by decide +kernel
theorem dX10_learn_60 : decode cX10_learn 60 = .ok (.iload_n 3, 1) := by decide +kernel
theorem dX10_learn_61 : decode cX10_learn 61 = .ok (.iadd, 1) := by decide +kernel
theorem dX10_learn_62 : decode cX10_learn 62 = .ok (.aload_n 0, 1) := by decide +kernel
theorem dX10_learn_63 : decode cX10_learn 63 = .ok (.getfield 43, 3) := by decide +kernel
theorem dX10_learn_66 : decode cX10_learn 66 = .ok (.iload_n 3, 1) := by decide +kernel
theorem dX10_learn_67 : decode cX10_learn 67 = .ok (.iaload, 1) := by decide +kernel
theorem dX10_learn_68 : decode cX10_learn 68 = .ok (.iastore, 1) := by decide +kernel
theorem dX10_learn_69 : decode cX10_learn 69 = .ok (.iconst 0, 1) := by decide +kernel
theorem dX10_learn_70 : decode cX10_learn 70 = .ok (.istore 4, 2) := by decide +kernel
theorem dX10_learn_72 : decode cX10_learn 72 = .ok (.iload 4, 2) := by decide +kernel
theorem dX10_learn_74 : decode cX10_learn 74 = .ok (.aload_n 0, 1) := by decide +kernel
theorem dX10_learn_75 : decode cX10_learn 75 = .ok (.getfield 43, 3) := by decide +kernel
theorem dX10_learn_78 : decode cX10_learn 78 = .ok (.iload_n 3, 1) := by decide +kernel
theorem dX10_learn_79 : decode cX10_learn 79 = .ok (.iaload, 1) := by decide +kernel
theorem dX10_learn_80 : decode cX10_learn 80 = .ok (.if_icmp .ge 35, 3) := by decide +kernel
theorem dX10_learn_83 : decode cX10_learn 83 = .ok (.aload_n 0, 1) := by decide +kernel
theorem dX10_learn_84 : decode cX10_learn 84 = .ok (.getfield 68, 3) := by decide +kernel
theorem dX10_learn_87 : decode cX10_learn 87 = .ok (.aload_n 0, 1) := by decide +kernel
theorem dX10_learn_88 : decode cX10_learn 88 = .ok (.iload_n 1, 1) := by decide +kernel
theorem dX10_learn_89 : decode cX10_learn 89 = .ok (.iload_n 3, 1) := by decide +kernel
theorem dX10_learn_90 : decode cX10_learn 90 = .ok (.invokevirtual 207, 3) := by decide +kernel
theorem dX10_learn_93 : decode cX10_learn 93 = .ok (.iload 4, 2) := by decide +kernel
theorem dX10_learn_95 : decode cX10_learn 95 = .ok (.iadd, 1) := by decide +kernel
theorem dX10_learn_96 : decode cX10_learn 96 = .ok (.aload_n 0, 1) := by decide +kernel
theorem dX10_learn_97 : decode cX10_learn 97 = .ok (.getfield 46, 3) := by decide +kernel
theorem dX10_learn_100 : decode cX10_learn 100 = .ok (.bipush 26, 2) := by decide +kernel
theorem dX10_learn_102 : decode cX10_learn 102 = .ok (.iload_n 3, 1) := by decide +kernel
theorem dX10_learn_103 : decode cX10_learn 103 = .ok (.imul, 1) := by decide +kernel
theorem dX10_learn_104 : decode cX10_learn 104 = .ok (.iload 4, 2) := by decide +kernel
theorem dX10_learn_106 : decode cX10_learn 106 = .ok (.iadd, 1) := by decide +kernel
theorem dX10_learn_107 : decode cX10_learn 107 = .ok (.iaload, 1) := by decide +kernel
theorem dX10_learn_108 : decode cX10_learn 108 = .ok (.iastore, 1) := by decide +kernel
theorem dX10_learn_109 : decode cX10_learn 109 = .ok (.iinc 4 1, 3) := by decide +kernel
theorem dX10_learn_112 : decode cX10_learn 112 = .ok (.goto (-40), 3) := by decide +kernel
theorem dX10_learn_115 : decode cX10_learn 115 = .ok (.aload_n 0, 1) := by decide +kernel
theorem dX10_learn_116 : decode cX10_learn 116 = .ok (.getfield 71, 3) := by decide +kernel
theorem dX10_learn_119 : decode cX10_learn 119 = .ok (.bipush 12, 2) := by decide +kernel
theorem dX10_learn_121 : decode cX10_learn 121 = .ok (.iload_n 1, 1) := by decide +kernel
theorem dX10_learn_122 : decode cX10_learn 122 = .ok (.imul, 1) := by decide +kernel
theorem dX10_learn_123 : decode cX10_learn 123 = .ok (.iload_n 3, 1) := by decide +kernel
theorem dX10_learn_124 : decode cX10_learn 124 = .ok (.iadd, 1) := by decide +kernel
theorem dX10_learn_125 : decode cX10_learn 125 = .ok (.aload_n 0, 1) := by decide +kernel
theorem dX10_learn_126 : decode cX10_learn 126 = .ok (.iload_n 1, 1) := by decide +kernel
theorem dX10_learn_127 : decode cX10_learn 127 = .ok (.iload_n 3, 1) := by decide +kernel
theorem dX10_learn_128 : decode cX10_learn 128 = .ok (.invokevirtual 220, 3) := by decide +kernel
theorem dX10_learn_131 : decode cX10_learn 131 = .ok (.iastore, 1) := by decide +kernel
theorem dX10_learn_132 : decode cX10_learn 132 = .ok (.iinc 3 1, 3) := by decide +kernel
theorem dX10_learn_135 : decode cX10_learn 135 = .ok (.goto (-91), 3) := by decide +kernel
theorem dX10_learn_138 : decode cX10_learn 138 = .ok (.iload_n 2, 1) := by decide +kernel
theorem dX10_learn_139 : decode cX10_learn 139 = .ok (.ireturn, 1) := by decide +kernel
theorem wMd_learn_72 (l : Launch) (G : zG) (k44 : Int32 → Int32 → Int32 → zM → Option (Int32 × zM)) (hk44 : ∀ (v1 : Int32) (v2 : Int32) (v3 : Int32) (M : zM), zV eI l G zLY zRY 7 yX10_learn cX10_learn 5 (some .int) 44 [(0, .ref 0), (1, .int v1), (2, .int v2), (3, .int v3)] [] M (k44 v1 v2 v3 M)) : ∀ (fuel : Nat) (v1 : Int32) (v2 : Int32) (v3 : Int32) (v4 : Int32) (M : zM), zV eI l G zLY zRY 7 yX10_learn cX10_learn 5 (some .int) 72 [(0, .ref 0), (1, .int v1), (2, .int v2), (3, .int v3), (4, .int v4)] [] M (fMd_learn_72 k44 fuel v1 v2 v3 v4 M) := by
  intro fuel
  induction fuel with
  | zero => intro v1 v2 v3 v4 M; exact v_none
  | succ fuel ih =>
    intro v1 v2 v3 v4 M
    rw [fMd_learn_72]
    refine v_iload (pc := 72) dX10_learn_72 rfl ?_
    refine v_aload_n (pc := 74) dX10_learn_74 rfl ?_
    refine v_getR (pc := 75) (q := 15) zk10 ly_0 rfl ry_0_15 tw_1041 dX10_learn_75 ?_
    refine v_iload_n (pc := 78) dX10_learn_78 rfl ?_
    refine v_iald (pc := 79) ly_12 dX10_learn_79 (fun x1 => ?_)
    refine v_icmp_ge (pc := 80) 115 dX10_learn_80 (by decide) ?_ ?_
    · refine v_aload_n (pc := 115) dX10_learn_115 rfl ?_
      refine v_getR (pc := 116) (q := 24) zk10 ly_0 rfl ry_0_24 tw_1050 dX10_learn_116 ?_
      refine v_bipush (pc := 119) 12 dX10_learn_119 (by decide) ?_
      refine v_iload_n (pc := 121) dX10_learn_121 rfl ?_
      refine v_imul (pc := 122) dX10_learn_122 ?_
      refine v_iload_n (pc := 123) dX10_learn_123 rfl ?_
      refine v_iadd (pc := 124) dX10_learn_124 ?_
      refine v_aload_n (pc := 125) dX10_learn_125 rfl ?_
      refine v_iload_n (pc := 126) dX10_learn_126 rfl ?_
      refine v_iload_n (pc := 127) dX10_learn_127 rfl ?_
      refine v_callV (pc := 128) (As := [.int v1, .int v3]) (cMd_checkOf l G v1 v3 M) zc_X10_checkOf zk10 rfl ly_0 tw_1312 (by decide) (Nat.le_of_ble_eq_true rfl) dX10_learn_128 (fun r3 M2 => ?_)
      refine v_iast (pc := 131) ly_21 dX10_learn_131 (fun M4 => ?_)
      refine v_iinc (pc := 132) 1 dX10_learn_132 rfl (by decide) (by decide) ?_
      refine v_goto (pc := 135) 44 dX10_learn_135 (by decide) ?_
      exact v_sub (hk44 v1 v2 (v3 + 1) M4) rfl
    · refine v_aload_n (pc := 83) dX10_learn_83 rfl ?_
      refine v_getR (pc := 84) (q := 23) zk10 ly_0 rfl ry_0_23 tw_1049 dX10_learn_84 ?_
      refine v_aload_n (pc := 87) dX10_learn_87 rfl ?_
      refine v_iload_n (pc := 88) dX10_learn_88 rfl ?_
      refine v_iload_n (pc := 89) dX10_learn_89 rfl ?_
      refine v_callV (pc := 90) (As := [.int v1, .int v3]) (cMd_bookAt l G v1 v3 M) zc_X10_bookAt zk10 rfl ly_0 tw_1308 (by decide) (Nat.le_of_ble_eq_true rfl) dX10_learn_90 (fun r6 M5 => ?_)
      refine v_iload (pc := 93) dX10_learn_93 rfl ?_
      refine v_iadd (pc := 95) dX10_learn_95 ?_
      refine v_aload_n (pc := 96) dX10_learn_96 rfl ?_
      refine v_getR (pc := 97) (q := 16) zk10 ly_0 rfl ry_0_16 tw_1042 dX10_learn_97 ?_
      refine v_bipush (pc := 100) 26 dX10_learn_100 (by decide) ?_
      refine v_iload_n (pc := 102) dX10_learn_102 rfl ?_
      refine v_imul (pc := 103) dX10_learn_103 ?_
      refine v_iload (pc := 104) dX10_learn_104 rfl ?_
      refine v_iadd (pc := 106) dX10_learn_106 ?_
      refine v_iald (pc := 107) ly_13 dX10_learn_107 (fun x7 => ?_)
      refine v_iast (pc := 108) ly_20 dX10_learn_108 (fun M8 => ?_)
      refine v_iinc (pc := 109) 1 dX10_learn_109 rfl (by decide) (by decide) ?_
      refine v_goto (pc := 112) 72 dX10_learn_112 (by decide) ?_
      exact v_sub (ih v1 v2 v3 (v4 + 1) M8) rfl
theorem wMd_learn_44 (l : Launch) (G : zG) : ∀ (fuel : Nat) (v1 : Int32) (v2 : Int32) (v3 : Int32) (M : zM), zV eI l G zLY zRY 7 yX10_learn cX10_learn 5 (some .int) 44 [(0, .ref 0), (1, .int v1), (2, .int v2), (3, .int v3)] [] M (fMd_learn_44 fuel v1 v2 v3 M) := by
  intro fuel
  induction fuel with
  | zero => intro v1 v2 v3 M; exact v_none
  | succ fuel ih =>
    intro v1 v2 v3 M
    rw [fMd_learn_44]
    refine v_iload_n (pc := 44) dX10_learn_44 rfl ?_
    refine v_aload_n (pc := 45) dX10_learn_45 rfl ?_
    refine v_getI (pc := 46) (q := 0) zk10 ly_0 rfl tw_1026 dX10_learn_46 ?_
    refine v_icmp_ge (pc := 49) 138 dX10_learn_49 (by decide) ?_ ?_
    · refine v_iload_n (pc := 138) dX10_learn_138 rfl ?_
      exact v_iret (pc := 139) dX10_learn_139
    · refine v_aload_n (pc := 52) dX10_learn_52 rfl ?_
      refine v_getR (pc := 53) (q := 22) zk10 ly_0 rfl ry_0_22 tw_1048 dX10_learn_53 ?_
      refine v_bipush (pc := 56) 12 dX10_learn_56 (by decide) ?_
      refine v_iload_n (pc := 58) dX10_learn_58 rfl ?_
      refine v_imul (pc := 59) dX10_learn_59 ?_
      refine v_iload_n (pc := 60) dX10_learn_60 rfl ?_
      refine v_iadd (pc := 61) dX10_learn_61 ?_
      refine v_aload_n (pc := 62) dX10_learn_62 rfl ?_
      refine v_getR (pc := 63) (q := 15) zk10 ly_0 rfl ry_0_15 tw_1041 dX10_learn_63 ?_
      refine v_iload_n (pc := 66) dX10_learn_66 rfl ?_
      refine v_iald (pc := 67) ly_12 dX10_learn_67 (fun x1 => ?_)
      refine v_iast (pc := 68) ly_19 dX10_learn_68 (fun M2 => ?_)
      refine v_iconst (pc := 69) 0 dX10_learn_69 (by decide) ?_
      refine v_istore (pc := 70) dX10_learn_70 (by decide) ?_
      exact v_sub (wMd_learn_72 l G (fMd_learn_44 fuel) ih FU v1 v2 v3 0 M2) rfl
theorem wMd_learn (l : Launch) (G : zG) (v1 : Int32) (M : zM) : zV eI l G zLY zRY 7 yX10_learn cX10_learn 5 (some .int) 0 [(0, .ref 0), (1, .int v1)] [] M (fMd_learn v1 M) := by
  rw [fMd_learn]
  refine v_iload_n (pc := 0) dX10_learn_0 rfl ?_
  refine v_i2l (pc := 1) dX10_learn_1 ?_
  refine v_lconst (pc := 2) 0 dX10_learn_2 (by decide) ?_
  refine v_ldc2 (pc := 3) 2 tw_1268 dX10_learn_3 ?_
  refine v_callS (pc := 6) (As := [.long v1.toInt64, .long 0, .long 2]) (cMd_in l G v1.toInt64 0 2 M) zc_X10_in tw_1153 (by decide) (Nat.le_of_ble_eq_true rfl) dX10_learn_6 (fun r2 M1 => ?_)
  refine v_if_ne (pc := 9) 16 dX10_learn_9 (by decide) ?_ ?_
  · refine v_aload_n (pc := 16) dX10_learn_16 rfl ?_
    refine v_iload_n (pc := 17) dX10_learn_17 rfl ?_
    refine v_callV (pc := 18) (As := [.int v1]) (cMd_staleSet l G v1 M1) zc_X10_staleSet zk10 rfl ly_0 tw_1296 (by decide) (Nat.le_of_ble_eq_true rfl) dX10_learn_18 (fun r4 M3 => ?_)
    refine v_callS (pc := 21) (As := [.int r4]) (cMd_ones l G r4 M3) zc_X10_ones tw_1285 (by decide) (Nat.le_of_ble_eq_true rfl) dX10_learn_21 (fun r6 M5 => ?_)
    refine v_istore_n (pc := 24) dX10_learn_24 (by decide) ?_
    refine v_aload_n (pc := 25) dX10_learn_25 rfl ?_
    refine v_getR (pc := 26) (q := 20) zk10 ly_0 rfl ry_0_20 tw_1046 dX10_learn_26 ?_
    refine v_iload_n (pc := 29) dX10_learn_29 rfl ?_
    refine v_iconst (pc := 30) 1 dX10_learn_30 (by decide) ?_
    refine v_zast (pc := 31) ly_17 dX10_learn_31 (fun M7 => ?_)
    refine v_aload_n (pc := 32) dX10_learn_32 rfl ?_
    refine v_getR (pc := 33) (q := 21) zk10 ly_0 rfl ry_0_21 tw_1047 dX10_learn_33 ?_
    refine v_iload_n (pc := 36) dX10_learn_36 rfl ?_
    refine v_aload_n (pc := 37) dX10_learn_37 rfl ?_
    refine v_getI (pc := 38) (q := 0) zk10 ly_0 rfl tw_1026 dX10_learn_38 ?_
    refine v_iast (pc := 41) ly_18 dX10_learn_41 (fun M8 => ?_)
    refine v_iconst (pc := 42) 0 dX10_learn_42 (by decide) ?_
    refine v_istore_n (pc := 43) dX10_learn_43 (by decide) ?_
    exact v_sub (wMd_learn_44 l G FU v1 r6 0 M8) rfl
  · refine v_sipush (pc := 12) (-1002) dX10_learn_12 (by decide) ?_
    exact v_iret (pc := 15) dX10_learn_15
theorem cMd_learn (l : Launch) (G : zG) (v1 : Int32) (M : zM) : zC eI l G zLY zRY 7 yX10_learn cX10_learn 5 (some .int) [.ref 0, .int v1] M (fMd_learn v1 M) := zC.of (by decide) (Nat.le_of_ble_eq_true rfl) (v_sub (wMd_learn l G v1 M) rfl)
theorem dX10_forge_0 : decode cX10_forge 0 = .ok (.iload_n 1, 1) := by decide +kernel
theorem dX10_forge_1 : decode cX10_forge 1 = .ok (.i2l, 1) := by decide +kernel
theorem dX10_forge_2 : decode cX10_forge 2 = .ok (.lconst 0, 1) := by decide +kernel
theorem dX10_forge_3 : decode cX10_forge 3 = .ok (.ldc2_w 191, 3) := by decide +kernel
theorem dX10_forge_6 : decode cX10_forge 6 = .ok (.invokestatic 102, 3) := by decide +kernel
theorem dX10_forge_9 : decode cX10_forge 9 = .ok (.ifCond .ne 7, 3) := by decide +kernel
theorem dX10_forge_12 : decode cX10_forge 12 = .ok (.sipush (-1002), 3) := by decide +kernel
theorem dX10_forge_15 : decode cX10_forge 15 = .ok (.ireturn, 1) := by decide +kernel
theorem dX10_forge_16 : decode cX10_forge 16 = .ok (.aload_n 0, 1) := by decide +kernel
theorem dX10_forge_17 : decode cX10_forge 17 = .ok (.iload_n 1, 1) := by decide +kernel
theorem dX10_forge_18 : decode cX10_forge 18 = .ok (.iload_n 2, 1) := by decide +kernel
theorem dX10_forge_19 : decode cX10_forge 19 = .ok (.invokevirtual 210, 3) := by decide +kernel
theorem dX10_forge_22 : decode cX10_forge 22 = .ok (.ifCond .ne 7, 3) := by decide +kernel
theorem dX10_forge_25 : decode cX10_forge 25 = .ok (.sipush (-1001), 3) := by decide +kernel
theorem dX10_forge_28 : decode cX10_forge 28 = .ok (.ireturn, 1) := by decide +kernel
theorem dX10_forge_29 : decode cX10_forge 29 = .ok (.iload_n 3, 1) := by decide +kernel
theorem dX10_forge_30 : decode cX10_forge 30 = .ok (.i2l, 1) := by decide +kernel
theorem dX10_forge_31 : decode cX10_forge 31 = .ok (.lconst 0, 1) := by decide +kernel
theorem dX10_forge_32 : decode cX10_forge 32 = .ok (.aload_n 0, 1) := by decide +kernel
theorem dX10_forge_33 : decode cX10_forge 33 = .ok (.getfield 65, 3) := by decide +kernel
theorem dX10_forge_36 : decode cX10_forge 36 = .ok (.bipush 12, 2) := by decide +kernel
theorem dX10_forge_38 : decode cX10_forge 38 = .ok (.iload_n 1, 1) := by decide +kernel
theorem dX10_forge_39 : decode cX10_forge 39 = .ok (.imul, 1) := by decide +kernel
theorem dX10_forge_40 : decode cX10_forge 40 = .ok (.iload_n 2, 1) := by decide +kernel
theorem dX10_forge_41 : decode cX10_forge 41 = .ok (.iadd, 1) := by decide +kernel
theorem dX10_forge_42 : decode cX10_forge 42 = .ok (.iaload, 1) := by decide +kernel
theorem dX10_forge_43 : decode cX10_forge 43 = .ok (.iconst 1, 1) := by decide +kernel
theorem dX10_forge_44 : decode cX10_forge 44 = .ok (.isub, 1) := by decide +kernel
theorem dX10_forge_45 : decode cX10_forge 45 = .ok (.i2l, 1) := by decide +kernel
theorem dX10_forge_46 : decode cX10_forge 46 = .ok (.invokestatic 102, 3) := by decide +kernel
theorem dX10_forge_49 : decode cX10_forge 49 = .ok (.ifCond .eq 16, 3) := by decide +kernel
theorem dX10_forge_52 : decode cX10_forge 52 = .ok (.iload 4, 2) := by decide +kernel
theorem dX10_forge_54 : decode cX10_forge 54 = .ok (.i2l, 1) := by decide +kernel
theorem dX10_forge_55 : decode cX10_forge 55 = .ok (.lconst 0, 1) := by decide +kernel
theorem dX10_forge_56 : decode cX10_forge 56 = .ok (.ldc2_w 223, 3) := by decide +kernel
theorem dX10_forge_59 : decode cX10_forge 59 = .ok (.invokestatic 102, 3) := by decide +kernel
theorem dX10_forge_62 : decode cX10_forge 62 = .ok (.ifCond .ne 7, 3) := by decide +kernel
theorem dX10_forge_65 : decode cX10_forge 65 = .ok (.sipush (-1002), 3) := by decide +kernel
theorem dX10_forge_68 : decode cX10_forge 68 = .ok (.ireturn, 1) := by decide +kernel
theorem dX10_forge_69 : decode cX10_forge 69 = .ok (.aload_n 0, 1) := by decide +kernel
theorem dX10_forge_70 : decode cX10_forge 70 = .ok (.getfield 68, 3) := by decide +kernel
theorem dX10_forge_73 : decode cX10_forge 73 = .ok (.aload_n 0, 1) := by decide +kernel
theorem dX10_forge_74 : decode cX10_forge 74 = .ok (.iload_n 1, 1) := by decide +kernel
theorem dX10_forge_75 : decode cX10_forge 75 = .ok (.iload_n 2, 1) := by decide +kernel
theorem dX10_forge_76 : decode cX10_forge 76 = .ok (.invokevirtual 207, 3) := by decide +kernel
theorem dX10_forge_79 : decode cX10_forge 79 = .ok (.iload_n 3, 1) := by decide +kernel
theorem dX10_forge_80 : decode cX10_forge 80 = .ok (.iadd, 1) := by decide +kernel
theorem dX10_forge_81 : decode cX10_forge 81 = .ok (.iaload, 1) := by decide +kernel
theorem dX10_forge_82 : decode cX10_forge 82 = .ok (.istore 5, 2) := by decide +kernel
theorem dX10_forge_84 : decode cX10_forge 84 = .ok (.aload_n 0, 1) := by decide +kernel
theorem dX10_forge_85 : decode cX10_forge 85 = .ok (.getfield 68, 3) := by decide +kernel
theorem dX10_forge_88 : decode cX10_forge 88 = .ok (.aload_n 0, 1) := by decide +kernel
theorem dX10_forge_89 : decode cX10_forge 89 = .ok (.iload_n 1, 1) := by decide +kernel
theorem dX10_forge_90 : decode cX10_forge 90 = .ok (.iload_n 2, 1) := by decide +kernel
theorem dX10_forge_91 : decode cX10_forge 91 = .ok (.invokevirtual 207, 3) := by decide +kernel
theorem dX10_forge_94 : decode cX10_forge 94 = .ok (.iload_n 3, 1) := by decide +kernel
theorem dX10_forge_95 : decode cX10_forge 95 = .ok (.iadd, 1) := by decide +kernel
theorem dX10_forge_96 : decode cX10_forge 96 = .ok (.iload 4, 2) := by decide +kernel
theorem dX10_forge_98 : decode cX10_forge 98 = .ok (.iastore, 1) := by decide +kernel
theorem dX10_forge_99 : decode cX10_forge 99 = .ok (.iload 5, 2) := by decide +kernel
theorem dX10_forge_101 : decode cX10_forge 101 = .ok (.ireturn, 1) := by decide +kernel
theorem wMd_forge (l : Launch) (G : zG) (v1 : Int32) (v2 : Int32) (v3 : Int32) (v4 : Int32) (M : zM) : zV eI l G zLY zRY 3 yX10_forge cX10_forge 6 (some .int) 0 [(0, .ref 0), (1, .int v1), (2, .int v2), (3, .int v3), (4, .int v4)] [] M (fMd_forge v1 v2 v3 v4 M) := by
  rw [fMd_forge]
  refine v_iload_n (pc := 0) dX10_forge_0 rfl ?_
  refine v_i2l (pc := 1) dX10_forge_1 ?_
  refine v_lconst (pc := 2) 0 dX10_forge_2 (by decide) ?_
  refine v_ldc2 (pc := 3) 2 tw_1268 dX10_forge_3 ?_
  refine v_callS (pc := 6) (As := [.long v1.toInt64, .long 0, .long 2]) (cMd_in l G v1.toInt64 0 2 M) zc_X10_in tw_1153 (by decide) (Nat.le_of_ble_eq_true rfl) dX10_forge_6 (fun r2 M1 => ?_)
  refine v_if_ne (pc := 9) 16 dX10_forge_9 (by decide) ?_ ?_
  · refine v_aload_n (pc := 16) dX10_forge_16 rfl ?_
    refine v_iload_n (pc := 17) dX10_forge_17 rfl ?_
    refine v_iload_n (pc := 18) dX10_forge_18 rfl ?_
    refine v_callV (pc := 19) (As := [.int v1, .int v2]) (cMd_isInBook l G v1 v2 M1) zc_X10_isInBook zk10 rfl ly_0 tw_1304 (by decide) (Nat.le_of_ble_eq_true rfl) dX10_forge_19 (fun r4 M3 => ?_)
    refine v_if_ne (pc := 22) 29 dX10_forge_22 (by decide) ?_ ?_
    · refine v_iload_n (pc := 29) dX10_forge_29 rfl ?_
      refine v_i2l (pc := 30) dX10_forge_30 ?_
      refine v_lconst (pc := 31) 0 dX10_forge_31 (by decide) ?_
      refine v_aload_n (pc := 32) dX10_forge_32 rfl ?_
      refine v_getR (pc := 33) (q := 22) zk10 ly_0 rfl ry_0_22 tw_1048 dX10_forge_33 ?_
      refine v_bipush (pc := 36) 12 dX10_forge_36 (by decide) ?_
      refine v_iload_n (pc := 38) dX10_forge_38 rfl ?_
      refine v_imul (pc := 39) dX10_forge_39 ?_
      refine v_iload_n (pc := 40) dX10_forge_40 rfl ?_
      refine v_iadd (pc := 41) dX10_forge_41 ?_
      refine v_iald (pc := 42) ly_19 dX10_forge_42 (fun x5 => ?_)
      refine v_iconst (pc := 43) 1 dX10_forge_43 (by decide) ?_
      refine v_isub (pc := 44) dX10_forge_44 ?_
      refine v_i2l (pc := 45) dX10_forge_45 ?_
      refine v_callS (pc := 46) (As := [.long v3.toInt64, .long 0, .long ((x5 - 1).toInt64)]) (cMd_in l G v3.toInt64 0 ((x5 - 1).toInt64) M3) zc_X10_in tw_1153 (by decide) (Nat.le_of_ble_eq_true rfl) dX10_forge_46 (fun r7 M6 => ?_)
      refine v_if_eq (pc := 49) 65 dX10_forge_49 (by decide) ?_ ?_
      · refine v_sipush (pc := 65) (-1002) dX10_forge_65 (by decide) ?_
        exact v_iret (pc := 68) dX10_forge_68
      · refine v_iload (pc := 52) dX10_forge_52 rfl ?_
        refine v_i2l (pc := 54) dX10_forge_54 ?_
        refine v_lconst (pc := 55) 0 dX10_forge_55 (by decide) ?_
        refine v_ldc2 (pc := 56) 99 tw_1320 dX10_forge_56 ?_
        refine v_callS (pc := 59) (As := [.long v4.toInt64, .long 0, .long 99]) (cMd_in l G v4.toInt64 0 99 M6) zc_X10_in tw_1153 (by decide) (Nat.le_of_ble_eq_true rfl) dX10_forge_59 (fun r9 M8 => ?_)
        refine v_if_ne (pc := 62) 69 dX10_forge_62 (by decide) ?_ ?_
        · refine v_aload_n (pc := 69) dX10_forge_69 rfl ?_
          refine v_getR (pc := 70) (q := 23) zk10 ly_0 rfl ry_0_23 tw_1049 dX10_forge_70 ?_
          refine v_aload_n (pc := 73) dX10_forge_73 rfl ?_
          refine v_iload_n (pc := 74) dX10_forge_74 rfl ?_
          refine v_iload_n (pc := 75) dX10_forge_75 rfl ?_
          refine v_callV (pc := 76) (As := [.int v1, .int v2]) (cMd_bookAt l G v1 v2 M8) zc_X10_bookAt zk10 rfl ly_0 tw_1308 (by decide) (Nat.le_of_ble_eq_true rfl) dX10_forge_76 (fun r11 M10 => ?_)
          refine v_iload_n (pc := 79) dX10_forge_79 rfl ?_
          refine v_iadd (pc := 80) dX10_forge_80 ?_
          refine v_iald (pc := 81) ly_20 dX10_forge_81 (fun x12 => ?_)
          refine v_istore (pc := 82) dX10_forge_82 (by decide) ?_
          refine v_aload_n (pc := 84) dX10_forge_84 rfl ?_
          refine v_getR (pc := 85) (q := 23) zk10 ly_0 rfl ry_0_23 tw_1049 dX10_forge_85 ?_
          refine v_aload_n (pc := 88) dX10_forge_88 rfl ?_
          refine v_iload_n (pc := 89) dX10_forge_89 rfl ?_
          refine v_iload_n (pc := 90) dX10_forge_90 rfl ?_
          refine v_callV (pc := 91) (As := [.int v1, .int v2]) (cMd_bookAt l G v1 v2 M10) zc_X10_bookAt zk10 rfl ly_0 tw_1308 (by decide) (Nat.le_of_ble_eq_true rfl) dX10_forge_91 (fun r14 M13 => ?_)
          refine v_iload_n (pc := 94) dX10_forge_94 rfl ?_
          refine v_iadd (pc := 95) dX10_forge_95 ?_
          refine v_iload (pc := 96) dX10_forge_96 rfl ?_
          refine v_iast (pc := 98) ly_20 dX10_forge_98 (fun M15 => ?_)
          refine v_iload (pc := 99) dX10_forge_99 rfl ?_
          exact v_iret (pc := 101) dX10_forge_101
        · refine v_sipush (pc := 65) (-1002) dX10_forge_65 (by decide) ?_
          exact v_iret (pc := 68) dX10_forge_68
    · refine v_sipush (pc := 25) (-1001) dX10_forge_25 (by decide) ?_
      exact v_iret (pc := 28) dX10_forge_28
  · refine v_sipush (pc := 12) (-1002) dX10_forge_12 (by decide) ?_
    exact v_iret (pc := 15) dX10_forge_15
theorem cMd_forge (l : Launch) (G : zG) (v1 : Int32) (v2 : Int32) (v3 : Int32) (v4 : Int32) (M : zM) : zC eI l G zLY zRY 3 yX10_forge cX10_forge 6 (some .int) [.ref 0, .int v1, .int v2, .int v3, .int v4] M (fMd_forge v1 v2 v3 v4 M) := zC.of (by decide) (Nat.le_of_ble_eq_true rfl) (v_sub (wMd_forge l G v1 v2 v3 v4 M) rfl)
theorem dX10_book_0 : decode cX10_book 0 = .ok (.iload_n 1, 1) := by decide +kernel
theorem dX10_book_1 : decode cX10_book 1 = .ok (.i2l, 1) := by decide +kernel
theorem dX10_book_2 : decode cX10_book 2 = .ok (.lconst 0, 1) := by decide +kernel
theorem dX10_book_3 : decode cX10_book 3 = .ok (.ldc2_w 191, 3) := by decide +kernel
theorem dX10_book_6 : decode cX10_book 6 = .ok (.invokestatic 102, 3) := by decide +kernel
theorem dX10_book_9 : decode cX10_book 9 = .ok (.ifCond .ne 7, 3) := by decide +kernel
theorem dX10_book_12 : decode cX10_book 12 = .ok (.sipush (-1002), 3) := by decide +kernel
theorem dX10_book_15 : decode cX10_book 15 = .ok (.ireturn, 1) := by decide +kernel
theorem dX10_book_16 : decode cX10_book 16 = .ok (.aload_n 0, 1) := by decide +kernel
theorem dX10_book_17 : decode cX10_book 17 = .ok (.iload_n 1, 1) := by decide +kernel
theorem dX10_book_18 : decode cX10_book 18 = .ok (.iload_n 2, 1) := by decide +kernel
theorem dX10_book_19 : decode cX10_book 19 = .ok (.invokevirtual 210, 3) := by decide +kernel
theorem dX10_book_22 : decode cX10_book 22 = .ok (.ifCond .ne 7, 3) := by decide +kernel
theorem dX10_book_25 : decode cX10_book 25 = .ok (.sipush (-1001), 3) := by decide +kernel
theorem dX10_book_28 : decode cX10_book 28 = .ok (.ireturn, 1) := by decide +kernel
theorem dX10_book_29 : decode cX10_book 29 = .ok (.aload_n 0, 1) := by decide +kernel
theorem dX10_book_30 : decode cX10_book 30 = .ok (.getfield 65, 3) := by decide +kernel
theorem dX10_book_33 : decode cX10_book 33 = .ok (.bipush 12, 2) := by decide +kernel
theorem dX10_book_35 : decode cX10_book 35 = .ok (.iload_n 1, 1) := by decide +kernel
theorem dX10_book_36 : decode cX10_book 36 = .ok (.imul, 1) := by decide +kernel
theorem dX10_book_37 : decode cX10_book 37 = .ok (.iload_n 2, 1) := by decide +kernel
theorem dX10_book_38 : decode cX10_book 38 = .ok (.iadd, 1) := by decide +kernel
theorem dX10_book_39 : decode cX10_book 39 = .ok (.iaload, 1) := by decide +kernel
theorem dX10_book_40 : decode cX10_book 40 = .ok (.istore 4, 2) := by decide +kernel
theorem dX10_book_42 : decode cX10_book 42 = .ok (.iload_n 3, 1) := by decide +kernel
theorem dX10_book_43 : decode cX10_book 43 = .ok (.iconst (-1), 1) := by decide +kernel
theorem dX10_book_44 : decode cX10_book 44 = .ok (.if_icmp .ne 8, 3) := by decide +kernel
theorem dX10_book_47 : decode cX10_book 47 = .ok (.iload 4, 2) := by decide +kernel
theorem dX10_book_49 : decode cX10_book 49 = .ok (.goto 54, 3) := by decide +kernel
theorem dX10_book_52 : decode cX10_book 52 = .ok (.iload_n 3, 1) := by decide +kernel
theorem dX10_book_53 : decode cX10_book 53 = .ok (.bipush (-2), 2) := by decide +kernel
theorem dX10_book_55 : decode cX10_book 55 = .ok (.if_icmp .ne 17, 3) := by decide +kernel
theorem dX10_book_58 : decode cX10_book 58 = .ok (.aload_n 0, 1) := by decide +kernel
theorem dX10_book_59 : decode cX10_book 59 = .ok (.getfield 71, 3) := by decide +kernel
theorem dX10_book_62 : decode cX10_book 62 = .ok (.bipush 12, 2) := by decide +kernel
theorem dX10_book_64 : decode cX10_book 64 = .ok (.iload_n 1, 1) := by decide +kernel
theorem dX10_book_65 : decode cX10_book 65 = .ok (.imul, 1) := by decide +kernel
theorem dX10_book_66 : decode cX10_book 66 = .ok (.iload_n 2, 1) := by decide +kernel
theorem dX10_book_67 : decode cX10_book 67 = .ok (.iadd, 1) := by decide +kernel
theorem dX10_book_68 : decode cX10_book 68 = .ok (.iaload, 1) := by decide +kernel
theorem dX10_book_69 : decode cX10_book 69 = .ok (.goto 34, 3) := by decide +kernel
theorem dX10_book_72 : decode cX10_book 72 = .ok (.iload_n 3, 1) := by decide +kernel
theorem dX10_book_73 : decode cX10_book 73 = .ok (.i2l, 1) := by decide +kernel
theorem dX10_book_74 : decode cX10_book 74 = .ok (.lconst 0, 1) := by decide +kernel
theorem dX10_book_75 : decode cX10_book 75 = .ok (.iload 4, 2) := by decide +kernel
theorem dX10_book_77 : decode cX10_book 77 = .ok (.iconst 1, 1) := by decide +kernel
theorem dX10_book_78 : decode cX10_book 78 = .ok (.isub, 1) := by decide +kernel
theorem dX10_book_79 : decode cX10_book 79 = .ok (.i2l, 1) := by decide +kernel
theorem dX10_book_80 : decode cX10_book 80 = .ok (.invokestatic 102, 3) := by decide +kernel
theorem dX10_book_83 : decode cX10_book 83 = .ok (.ifCond .eq 19, 3) := by decide +kernel
theorem dX10_book_86 : decode cX10_book 86 = .ok (.aload_n 0, 1) := by decide +kernel
theorem dX10_book_87 : decode cX10_book 87 = .ok (.getfield 68, 3) := by decide +kernel
theorem dX10_book_90 : decode cX10_book 90 = .ok (.aload_n 0, 1) := by decide +kernel
theorem dX10_book_91 : decode cX10_book 91 = .ok (.iload_n 1, 1) := by decide +kernel
theorem dX10_book_92 : decode cX10_book 92 = .ok (.iload_n 2, 1) := by decide +kernel
theorem dX10_book_93 : decode cX10_book 93 = .ok (.invokevirtual 207, 3) := by decide +kernel
theorem dX10_book_96 : decode cX10_book 96 = .ok (.iload_n 3, 1) := by decide +kernel
theorem dX10_book_97 : decode cX10_book 97 = .ok (.iadd, 1) := by decide +kernel
theorem dX10_book_98 : decode cX10_book 98 = .ok (.iaload, 1) := by decide +kernel
theorem dX10_book_99 : decode cX10_book 99 = .ok (.goto 4, 3) := by decide +kernel
theorem dX10_book_102 : decode cX10_book 102 = .ok (.iconst (-1), 1) := by decide +kernel
theorem dX10_book_103 : decode cX10_book 103 = .ok (.ireturn, 1) := by decide +kernel
theorem wMd_book (l : Launch) (G : zG) (v1 : Int32) (v2 : Int32) (v3 : Int32) (M : zM) : zV eI l G zLY zRY 3 yX10_book cX10_book 5 (some .int) 0 [(0, .ref 0), (1, .int v1), (2, .int v2), (3, .int v3)] [] M (fMd_book v1 v2 v3 M) := by
  rw [fMd_book]
  refine v_iload_n (pc := 0) dX10_book_0 rfl ?_
  refine v_i2l (pc := 1) dX10_book_1 ?_
  refine v_lconst (pc := 2) 0 dX10_book_2 (by decide) ?_
  refine v_ldc2 (pc := 3) 2 tw_1268 dX10_book_3 ?_
  refine v_callS (pc := 6) (As := [.long v1.toInt64, .long 0, .long 2]) (cMd_in l G v1.toInt64 0 2 M) zc_X10_in tw_1153 (by decide) (Nat.le_of_ble_eq_true rfl) dX10_book_6 (fun r2 M1 => ?_)
  refine v_if_ne (pc := 9) 16 dX10_book_9 (by decide) ?_ ?_
  · refine v_aload_n (pc := 16) dX10_book_16 rfl ?_
    refine v_iload_n (pc := 17) dX10_book_17 rfl ?_
    refine v_iload_n (pc := 18) dX10_book_18 rfl ?_
    refine v_callV (pc := 19) (As := [.int v1, .int v2]) (cMd_isInBook l G v1 v2 M1) zc_X10_isInBook zk10 rfl ly_0 tw_1304 (by decide) (Nat.le_of_ble_eq_true rfl) dX10_book_19 (fun r4 M3 => ?_)
    refine v_if_ne (pc := 22) 29 dX10_book_22 (by decide) ?_ ?_
    · refine v_aload_n (pc := 29) dX10_book_29 rfl ?_
      refine v_getR (pc := 30) (q := 22) zk10 ly_0 rfl ry_0_22 tw_1048 dX10_book_30 ?_
      refine v_bipush (pc := 33) 12 dX10_book_33 (by decide) ?_
      refine v_iload_n (pc := 35) dX10_book_35 rfl ?_
      refine v_imul (pc := 36) dX10_book_36 ?_
      refine v_iload_n (pc := 37) dX10_book_37 rfl ?_
      refine v_iadd (pc := 38) dX10_book_38 ?_
      refine v_iald (pc := 39) ly_19 dX10_book_39 (fun x5 => ?_)
      refine v_istore (pc := 40) dX10_book_40 (by decide) ?_
      refine v_iload_n (pc := 42) dX10_book_42 rfl ?_
      refine v_iconst (pc := 43) (-1) dX10_book_43 (by decide) ?_
      refine v_icmp_ne (pc := 44) 52 dX10_book_44 (by decide) ?_ ?_
      · refine v_iload_n (pc := 52) dX10_book_52 rfl ?_
        refine v_bipush (pc := 53) (-2) dX10_book_53 (by decide) ?_
        refine v_icmp_ne (pc := 55) 72 dX10_book_55 (by decide) ?_ ?_
        · refine v_iload_n (pc := 72) dX10_book_72 rfl ?_
          refine v_i2l (pc := 73) dX10_book_73 ?_
          refine v_lconst (pc := 74) 0 dX10_book_74 (by decide) ?_
          refine v_iload (pc := 75) dX10_book_75 rfl ?_
          refine v_iconst (pc := 77) 1 dX10_book_77 (by decide) ?_
          refine v_isub (pc := 78) dX10_book_78 ?_
          refine v_i2l (pc := 79) dX10_book_79 ?_
          refine v_callS (pc := 80) (As := [.long v3.toInt64, .long 0, .long ((x5 - 1).toInt64)]) (cMd_in l G v3.toInt64 0 ((x5 - 1).toInt64) M3) zc_X10_in tw_1153 (by decide) (Nat.le_of_ble_eq_true rfl) dX10_book_80 (fun r7 M6 => ?_)
          refine v_if_eq (pc := 83) 102 dX10_book_83 (by decide) ?_ ?_
          · refine v_iconst (pc := 102) (-1) dX10_book_102 (by decide) ?_
            exact v_iret (pc := 103) dX10_book_103
          · refine v_aload_n (pc := 86) dX10_book_86 rfl ?_
            refine v_getR (pc := 87) (q := 23) zk10 ly_0 rfl ry_0_23 tw_1049 dX10_book_87 ?_
            refine v_aload_n (pc := 90) dX10_book_90 rfl ?_
            refine v_iload_n (pc := 91) dX10_book_91 rfl ?_
            refine v_iload_n (pc := 92) dX10_book_92 rfl ?_
            refine v_callV (pc := 93) (As := [.int v1, .int v2]) (cMd_bookAt l G v1 v2 M6) zc_X10_bookAt zk10 rfl ly_0 tw_1308 (by decide) (Nat.le_of_ble_eq_true rfl) dX10_book_93 (fun r9 M8 => ?_)
            refine v_iload_n (pc := 96) dX10_book_96 rfl ?_
            refine v_iadd (pc := 97) dX10_book_97 ?_
            refine v_iald (pc := 98) ly_20 dX10_book_98 (fun x10 => ?_)
            refine v_goto (pc := 99) 103 dX10_book_99 (by decide) ?_
            exact v_iret (pc := 103) dX10_book_103
        · refine v_aload_n (pc := 58) dX10_book_58 rfl ?_
          refine v_getR (pc := 59) (q := 24) zk10 ly_0 rfl ry_0_24 tw_1050 dX10_book_59 ?_
          refine v_bipush (pc := 62) 12 dX10_book_62 (by decide) ?_
          refine v_iload_n (pc := 64) dX10_book_64 rfl ?_
          refine v_imul (pc := 65) dX10_book_65 ?_
          refine v_iload_n (pc := 66) dX10_book_66 rfl ?_
          refine v_iadd (pc := 67) dX10_book_67 ?_
          refine v_iald (pc := 68) ly_21 dX10_book_68 (fun x11 => ?_)
          refine v_goto (pc := 69) 103 dX10_book_69 (by decide) ?_
          exact v_iret (pc := 103) dX10_book_103
      · refine v_iload (pc := 47) dX10_book_47 rfl ?_
        refine v_goto (pc := 49) 103 dX10_book_49 (by decide) ?_
        exact v_iret (pc := 103) dX10_book_103
    · refine v_sipush (pc := 25) (-1001) dX10_book_25 (by decide) ?_
      exact v_iret (pc := 28) dX10_book_28
  · refine v_sipush (pc := 12) (-1002) dX10_book_12 (by decide) ?_
    exact v_iret (pc := 15) dX10_book_15
theorem cMd_book (l : Launch) (G : zG) (v1 : Int32) (v2 : Int32) (v3 : Int32) (M : zM) : zC eI l G zLY zRY 3 yX10_book cX10_book 5 (some .int) [.ref 0, .int v1, .int v2, .int v3] M (fMd_book v1 v2 v3 M) := zC.of (by decide) (Nat.le_of_ble_eq_true rfl) (v_sub (wMd_book l G v1 v2 v3 M) rfl)
theorem dX10_isDamaged_0 : decode cX10_isDamaged 0 = .ok (.aload_n 0, 1) := by decide +kernel
theorem dX10_isDamaged_1 : decode cX10_isDamaged 1 = .ok (.iload_n 1, 1) := by decide +kernel
theorem dX10_isDamaged_2 : decode cX10_isDamaged 2 = .ok (.iload_n 2, 1) := by decide +kernel
theorem dX10_isDamaged_3 : decode cX10_isDamaged 3 = .ok (.invokevirtual 220, 3) := by decide +kernel
theorem dX10_isDamaged_6 : decode cX10_isDamaged 6 = .ok (.aload_n 0, 1) := by decide +kernel
theorem dX10_isDamaged_7 : decode cX10_isDamaged 7 = .ok (.getfield 71, 3) := by decide +kernel
theorem dX10_isDamaged_10 : decode cX10_isDamaged 10 = .ok (.bipush 12, 2) := by decide +kernel
theorem dX10_isDamaged_12 : decode cX10_isDamaged 12 = .ok (.iload_n 1, 1) := by decide +kernel
theorem dX10_isDamaged_13 : decode cX10_isDamaged 13 = .ok (.imul, 1) := by decide +kernel
theorem dX10_isDamaged_14 : decode cX10_isDamaged 14 = .ok (.iload_n 2, 1) := by decide +kernel
theorem dX10_isDamaged_15 : decode cX10_isDamaged 15 = .ok (.iadd, 1) := by decide +kernel
theorem dX10_isDamaged_16 : decode cX10_isDamaged 16 = .ok (.iaload, 1) := by decide +kernel
theorem dX10_isDamaged_17 : decode cX10_isDamaged 17 = .ok (.if_icmp .eq 7, 3) := by decide +kernel
theorem dX10_isDamaged_20 : decode cX10_isDamaged 20 = .ok (.iconst 1, 1) := by decide +kernel
theorem dX10_isDamaged_21 : decode cX10_isDamaged 21 = .ok (.goto 4, 3) := by decide +kernel
theorem dX10_isDamaged_24 : decode cX10_isDamaged 24 = .ok (.iconst 0, 1) := by decide +kernel
theorem dX10_isDamaged_25 : decode cX10_isDamaged 25 = .ok (.ireturn, 1) := by decide +kernel
theorem wMd_isDamaged (l : Launch) (G : zG) (v1 : Int32) (v2 : Int32) (M : zM) : zV eI l G zLY zRY 3 yX10_isDamaged cX10_isDamaged 3 (some .boolean) 0 [(0, .ref 0), (1, .int v1), (2, .int v2)] [] M (fMd_isDamaged v1 v2 M) := by
  rw [fMd_isDamaged]
  refine v_aload_n (pc := 0) dX10_isDamaged_0 rfl ?_
  refine v_iload_n (pc := 1) dX10_isDamaged_1 rfl ?_
  refine v_iload_n (pc := 2) dX10_isDamaged_2 rfl ?_
  refine v_callV (pc := 3) (As := [.int v1, .int v2]) (cMd_checkOf l G v1 v2 M) zc_X10_checkOf zk10 rfl ly_0 tw_1312 (by decide) (Nat.le_of_ble_eq_true rfl) dX10_isDamaged_3 (fun r2 M1 => ?_)
  refine v_aload_n (pc := 6) dX10_isDamaged_6 rfl ?_
  refine v_getR (pc := 7) (q := 24) zk10 ly_0 rfl ry_0_24 tw_1050 dX10_isDamaged_7 ?_
  refine v_bipush (pc := 10) 12 dX10_isDamaged_10 (by decide) ?_
  refine v_iload_n (pc := 12) dX10_isDamaged_12 rfl ?_
  refine v_imul (pc := 13) dX10_isDamaged_13 ?_
  refine v_iload_n (pc := 14) dX10_isDamaged_14 rfl ?_
  refine v_iadd (pc := 15) dX10_isDamaged_15 ?_
  refine v_iald (pc := 16) ly_21 dX10_isDamaged_16 (fun x3 => ?_)
  refine v_icmp_eq (pc := 17) 24 dX10_isDamaged_17 (by decide) ?_ ?_
  · refine v_iconst (pc := 24) 0 dX10_isDamaged_24 (by decide) ?_
    exact v_zret (pc := 25) dX10_isDamaged_25
  · refine v_iconst (pc := 20) 1 dX10_isDamaged_20 (by decide) ?_
    refine v_goto (pc := 21) 25 dX10_isDamaged_21 (by decide) ?_
    exact v_zret (pc := 25) dX10_isDamaged_25
theorem cMd_isDamaged (l : Launch) (G : zG) (v1 : Int32) (v2 : Int32) (M : zM) : zC eI l G zLY zRY 3 yX10_isDamaged cX10_isDamaged 3 (some .boolean) [.ref 0, .int v1, .int v2] M (fMd_isDamaged v1 v2 M) := zC.of (by decide) (Nat.le_of_ble_eq_true rfl) (v_sub (wMd_isDamaged l G v1 v2 M) rfl)
theorem dX10_answer_0 : decode cX10_answer 0 = .ok (.iload_n 1, 1) := by decide +kernel
theorem dX10_answer_1 : decode cX10_answer 1 = .ok (.i2l, 1) := by decide +kernel
theorem dX10_answer_2 : decode cX10_answer 2 = .ok (.lconst 0, 1) := by decide +kernel
theorem dX10_answer_3 : decode cX10_answer 3 = .ok (.ldc2_w 191, 3) := by decide +kernel
theorem dX10_answer_6 : decode cX10_answer 6 = .ok (.invokestatic 102, 3) := by decide +kernel
theorem dX10_answer_9 : decode cX10_answer 9 = .ok (.ifCond .ne 7, 3) := by decide +kernel
theorem dX10_answer_12 : decode cX10_answer 12 = .ok (.sipush (-1002), 3) := by decide +kernel
theorem dX10_answer_15 : decode cX10_answer 15 = .ok (.ireturn, 1) := by decide +kernel
theorem dX10_answer_16 : decode cX10_answer 16 = .ok (.aload_n 0, 1) := by decide +kernel
theorem dX10_answer_17 : decode cX10_answer 17 = .ok (.iload_n 1, 1) := by decide +kernel
theorem dX10_answer_18 : decode cX10_answer 18 = .ok (.iload_n 2, 1) := by decide +kernel
theorem dX10_answer_19 : decode cX10_answer 19 = .ok (.invokevirtual 210, 3) := by decide +kernel
theorem dX10_answer_22 : decode cX10_answer 22 = .ok (.ifCond .eq 12, 3) := by decide +kernel
theorem dX10_answer_25 : decode cX10_answer 25 = .ok (.aload_n 0, 1) := by decide +kernel
theorem dX10_answer_26 : decode cX10_answer 26 = .ok (.iload_n 1, 1) := by decide +kernel
theorem dX10_answer_27 : decode cX10_answer 27 = .ok (.iload_n 3, 1) := by decide +kernel
theorem dX10_answer_28 : decode cX10_answer 28 = .ok (.invokevirtual 210, 3) := by decide +kernel
theorem dX10_answer_31 : decode cX10_answer 31 = .ok (.ifCond .ne 7, 3) := by decide +kernel
theorem dX10_answer_34 : decode cX10_answer 34 = .ok (.sipush (-1001), 3) := by decide +kernel
theorem dX10_answer_37 : decode cX10_answer 37 = .ok (.ireturn, 1) := by decide +kernel
theorem dX10_answer_38 : decode cX10_answer 38 = .ok (.aload_n 0, 1) := by decide +kernel
theorem dX10_answer_39 : decode cX10_answer 39 = .ok (.iload_n 1, 1) := by decide +kernel
theorem dX10_answer_40 : decode cX10_answer 40 = .ok (.iload_n 2, 1) := by decide +kernel
theorem dX10_answer_41 : decode cX10_answer 41 = .ok (.invokevirtual 225, 3) := by decide +kernel
theorem dX10_answer_44 : decode cX10_answer 44 = .ok (.ifCond .ne 12, 3) := by decide +kernel
theorem dX10_answer_47 : decode cX10_answer 47 = .ok (.aload_n 0, 1) := by decide +kernel
theorem dX10_answer_48 : decode cX10_answer 48 = .ok (.iload_n 1, 1) := by decide +kernel
theorem dX10_answer_49 : decode cX10_answer 49 = .ok (.iload_n 3, 1) := by decide +kernel
theorem dX10_answer_50 : decode cX10_answer 50 = .ok (.invokevirtual 225, 3) := by decide +kernel
theorem dX10_answer_53 : decode cX10_answer 53 = .ok (.ifCond .eq 7, 3) := by decide +kernel
theorem dX10_answer_56 : decode cX10_answer 56 = .ok (.sipush (-1005), 3) := by decide +kernel
theorem dX10_answer_59 : decode cX10_answer 59 = .ok (.ireturn, 1) := by decide +kernel
theorem dX10_answer_60 : decode cX10_answer 60 = .ok (.iconst 0, 1) := by decide +kernel
theorem dX10_answer_61 : decode cX10_answer 61 = .ok (.istore 4, 2) := by decide +kernel
theorem dX10_answer_63 : decode cX10_answer 63 = .ok (.iload 4, 2) := by decide +kernel
theorem dX10_answer_65 : decode cX10_answer 65 = .ok (.aload_n 0, 1) := by decide +kernel
theorem dX10_answer_66 : decode cX10_answer 66 = .ok (.getfield 62, 3) := by decide +kernel
theorem dX10_answer_69 : decode cX10_answer 69 = .ok (.iload_n 1, 1) := by decide +kernel
theorem dX10_answer_70 : decode cX10_answer 70 = .ok (.iaload, 1) := by decide +kernel
theorem dX10_answer_71 : decode cX10_answer 71 = .ok (.if_icmp .ge 77, 3) := by decide +kernel
theorem dX10_answer_74 : decode cX10_answer 74 = .ok (.aload_n 0, 1) := by decide +kernel
theorem dX10_answer_75 : decode cX10_answer 75 = .ok (.getfield 43, 3) := by decide +kernel
theorem dX10_answer_78 : decode cX10_answer 78 = .ok (.iload 4, 2) := by decide +kernel
theorem dX10_answer_80 : decode cX10_answer 80 = .ok (.aload_n 0, 1) := by decide +kernel
theorem dX10_answer_81 : decode cX10_answer 81 = .ok (.getfield 65, 3) := by decide +kernel
theorem dX10_answer_84 : decode cX10_answer 84 = .ok (.bipush 12, 2) := by decide +kernel
theorem dX10_answer_86 : decode cX10_answer 86 = .ok (.iload_n 1, 1) := by decide +kernel
theorem dX10_answer_87 : decode cX10_answer 87 = .ok (.imul, 1) := by decide +kernel
theorem dX10_answer_88 : decode cX10_answer 88 = .ok (.iload 4, 2) := by decide +kernel
theorem dX10_answer_90 : decode cX10_answer 90 = .ok (.iadd, 1) := by decide +kernel
theorem dX10_answer_91 : decode cX10_answer 91 = .ok (.iaload, 1) := by decide +kernel
theorem dX10_answer_92 : decode cX10_answer 92 = .ok (.iastore, 1) := by decide +kernel
theorem dX10_answer_93 : decode cX10_answer 93 = .ok (.iconst 0, 1) := by decide +kernel
theorem dX10_answer_94 : decode cX10_answer 94 = .ok (.istore 5, 2) := by decide +kernel
theorem dX10_answer_96 : decode cX10_answer 96 = .ok (.iload 5, 2) := by decide +kernel
theorem dX10_answer_98 : decode cX10_answer 98 = .ok (.aload_n 0, 1) := by decide +kernel
theorem dX10_answer_99 : decode cX10_answer 99 = .ok (.getfield 43, 3) := by decide +kernel
theorem dX10_answer_102 : decode cX10_answer 102 = .ok (.iload 4, 2) := by decide +kernel
theorem dX10_answer_104 : decode cX10_answer 104 = .ok (.iaload, 1) := by decide +kernel
theorem dX10_answer_105 : decode cX10_answer 105 = .ok (.if_icmp .ge 37, 3) := by decide +kernel
theorem dX10_answer_108 : decode cX10_answer 108 = .ok (.aload_n 0, 1) := by decide +kernel
theorem dX10_answer_109 : decode cX10_answer 109 = .ok (.getfield 46, 3) := by decide +kernel
theorem dX10_answer_112 : decode cX10_answer 112 = .ok (.bipush 26, 2) := by decide +kernel
theorem dX10_answer_114 : decode cX10_answer 114 = .ok (.iload 4, 2) := by decide +kernel
theorem dX10_answer_116 : decode cX10_answer 116 = .ok (.imul, 1) := by decide +kernel
theorem dX10_answer_117 : decode cX10_answer 117 = .ok (.iload 5, 2) := by decide +kernel
theorem dX10_answer_119 : decode cX10_answer 119 = .ok (.iadd, 1) := by decide +kernel
theorem dX10_answer_120 : decode cX10_answer 120 = .ok (.aload_n 0, 1) := by decide +kernel
theorem dX10_answer_121 : decode cX10_answer 121 = .ok (.getfield 68, 3) := by decide +kernel
theorem dX10_answer_124 : decode cX10_answer 124 = .ok (.aload_n 0, 1) := by decide +kernel
theorem dX10_answer_125 : decode cX10_answer 125 = .ok (.iload_n 1, 1) := by decide +kernel
theorem dX10_answer_126 : decode cX10_answer 126 = .ok (.iload 4, 2) := by decide +kernel
theorem dX10_answer_128 : decode cX10_answer 128 = .ok (.invokevirtual 207, 3) := by decide +kernel
theorem dX10_answer_131 : decode cX10_answer 131 = .ok (.iload 5, 2) := by decide +kernel
theorem dX10_answer_133 : decode cX10_answer 133 = .ok (.iadd, 1) := by decide +kernel
theorem dX10_answer_134 : decode cX10_answer 134 = .ok (.iaload, 1) := by decide +kernel
theorem dX10_answer_135 : decode cX10_answer 135 = .ok (.iastore, 1) := by decide +kernel
theorem dX10_answer_136 : decode cX10_answer 136 = .ok (.iinc 5 1, 3) := by decide +kernel
theorem dX10_answer_139 : decode cX10_answer 139 = .ok (.goto (-43), 3) := by decide +kernel
theorem dX10_answer_142 : decode cX10_answer 142 = .ok (.iinc 4 1, 3) := by decide +kernel
theorem dX10_answer_145 : decode cX10_answer 145 = .ok (.goto (-82), 3) := by decide +kernel
theorem dX10_answer_148 : decode cX10_answer 148 = .ok (.aload_n 0, 1) := by decide +kernel
theorem dX10_answer_149 : decode cX10_answer 149 = .ok (.iload_n 1, 1) := by decide +kernel
theorem dX10_answer_150 : decode cX10_answer 150 = .ok (.iload_n 2, 1) := by decide +kernel
theorem dX10_answer_151 : decode cX10_answer 151 = .ok (.iload_n 3, 1) := by decide +kernel
theorem dX10_answer_152 : decode cX10_answer 152 = .ok (.invokevirtual 196, 3) := by decide +kernel
theorem dX10_answer_155 : decode cX10_answer 155 = .ok (.ireturn, 1) := by decide +kernel
theorem wMd_answer_96 (l : Launch) (G : zG) (k63 : Int32 → Int32 → Int32 → Int32 → zM → Option (Int32 × zM)) (hk63 : ∀ (v1 : Int32) (v2 : Int32) (v3 : Int32) (v4 : Int32) (M : zM), zV eI l G zLY zRY 4 yX10_answer cX10_answer 6 (some .int) 63 [(0, .ref 0), (1, .int v1), (2, .int v2), (3, .int v3), (4, .int v4)] [] M (k63 v1 v2 v3 v4 M)) : ∀ (fuel : Nat) (v1 : Int32) (v2 : Int32) (v3 : Int32) (v4 : Int32) (v5 : Int32) (M : zM), zV eI l G zLY zRY 4 yX10_answer cX10_answer 6 (some .int) 96 [(0, .ref 0), (1, .int v1), (2, .int v2), (3, .int v3), (4, .int v4), (5, .int v5)] [] M (fMd_answer_96 k63 fuel v1 v2 v3 v4 v5 M) := by
  intro fuel
  induction fuel with
  | zero => intro v1 v2 v3 v4 v5 M; exact v_none
  | succ fuel ih =>
    intro v1 v2 v3 v4 v5 M
    rw [fMd_answer_96]
    refine v_iload (pc := 96) dX10_answer_96 rfl ?_
    refine v_aload_n (pc := 98) dX10_answer_98 rfl ?_
    refine v_getR (pc := 99) (q := 15) zk10 ly_0 rfl ry_0_15 tw_1041 dX10_answer_99 ?_
    refine v_iload (pc := 102) dX10_answer_102 rfl ?_
    refine v_iald (pc := 104) ly_12 dX10_answer_104 (fun x1 => ?_)
    refine v_icmp_ge (pc := 105) 142 dX10_answer_105 (by decide) ?_ ?_
    · refine v_iinc (pc := 142) 1 dX10_answer_142 rfl (by decide) (by decide) ?_
      refine v_goto (pc := 145) 63 dX10_answer_145 (by decide) ?_
      exact v_sub (hk63 v1 v2 v3 (v4 + 1) M) rfl
    · refine v_aload_n (pc := 108) dX10_answer_108 rfl ?_
      refine v_getR (pc := 109) (q := 16) zk10 ly_0 rfl ry_0_16 tw_1042 dX10_answer_109 ?_
      refine v_bipush (pc := 112) 26 dX10_answer_112 (by decide) ?_
      refine v_iload (pc := 114) dX10_answer_114 rfl ?_
      refine v_imul (pc := 116) dX10_answer_116 ?_
      refine v_iload (pc := 117) dX10_answer_117 rfl ?_
      refine v_iadd (pc := 119) dX10_answer_119 ?_
      refine v_aload_n (pc := 120) dX10_answer_120 rfl ?_
      refine v_getR (pc := 121) (q := 23) zk10 ly_0 rfl ry_0_23 tw_1049 dX10_answer_121 ?_
      refine v_aload_n (pc := 124) dX10_answer_124 rfl ?_
      refine v_iload_n (pc := 125) dX10_answer_125 rfl ?_
      refine v_iload (pc := 126) dX10_answer_126 rfl ?_
      refine v_callV (pc := 128) (As := [.int v1, .int v4]) (cMd_bookAt l G v1 v4 M) zc_X10_bookAt zk10 rfl ly_0 tw_1308 (by decide) (Nat.le_of_ble_eq_true rfl) dX10_answer_128 (fun r3 M2 => ?_)
      refine v_iload (pc := 131) dX10_answer_131 rfl ?_
      refine v_iadd (pc := 133) dX10_answer_133 ?_
      refine v_iald (pc := 134) ly_20 dX10_answer_134 (fun x4 => ?_)
      refine v_iast (pc := 135) ly_13 dX10_answer_135 (fun M5 => ?_)
      refine v_iinc (pc := 136) 1 dX10_answer_136 rfl (by decide) (by decide) ?_
      refine v_goto (pc := 139) 96 dX10_answer_139 (by decide) ?_
      exact v_sub (ih v1 v2 v3 v4 (v5 + 1) M5) rfl
theorem wMd_answer_63 (l : Launch) (G : zG) : ∀ (fuel : Nat) (v1 : Int32) (v2 : Int32) (v3 : Int32) (v4 : Int32) (M : zM), zV eI l G zLY zRY 4 yX10_answer cX10_answer 6 (some .int) 63 [(0, .ref 0), (1, .int v1), (2, .int v2), (3, .int v3), (4, .int v4)] [] M (fMd_answer_63 fuel v1 v2 v3 v4 M) := by
  intro fuel
  induction fuel with
  | zero => intro v1 v2 v3 v4 M; exact v_none
  | succ fuel ih =>
    intro v1 v2 v3 v4 M
    rw [fMd_answer_63]
    refine v_iload (pc := 63) dX10_answer_63 rfl ?_
    refine v_aload_n (pc := 65) dX10_answer_65 rfl ?_
    refine v_getR (pc := 66) (q := 21) zk10 ly_0 rfl ry_0_21 tw_1047 dX10_answer_66 ?_
    refine v_iload_n (pc := 69) dX10_answer_69 rfl ?_
    refine v_iald (pc := 70) ly_18 dX10_answer_70 (fun x1 => ?_)
    refine v_icmp_ge (pc := 71) 148 dX10_answer_71 (by decide) ?_ ?_
    · refine v_aload_n (pc := 148) dX10_answer_148 rfl ?_
      refine v_iload_n (pc := 149) dX10_answer_149 rfl ?_
      refine v_iload_n (pc := 150) dX10_answer_150 rfl ?_
      refine v_iload_n (pc := 151) dX10_answer_151 rfl ?_
      refine v_callV (pc := 152) (As := [.int v1, .int v2, .int v3]) (cMd_sayOf l G v1 v2 v3 M) zc_X10_sayOf zk10 rfl ly_0 tw_1277 (by decide) (Nat.le_of_ble_eq_true rfl) dX10_answer_152 (fun r3 M2 => ?_)
      exact v_iret (pc := 155) dX10_answer_155
    · refine v_aload_n (pc := 74) dX10_answer_74 rfl ?_
      refine v_getR (pc := 75) (q := 15) zk10 ly_0 rfl ry_0_15 tw_1041 dX10_answer_75 ?_
      refine v_iload (pc := 78) dX10_answer_78 rfl ?_
      refine v_aload_n (pc := 80) dX10_answer_80 rfl ?_
      refine v_getR (pc := 81) (q := 22) zk10 ly_0 rfl ry_0_22 tw_1048 dX10_answer_81 ?_
      refine v_bipush (pc := 84) 12 dX10_answer_84 (by decide) ?_
      refine v_iload_n (pc := 86) dX10_answer_86 rfl ?_
      refine v_imul (pc := 87) dX10_answer_87 ?_
      refine v_iload (pc := 88) dX10_answer_88 rfl ?_
      refine v_iadd (pc := 90) dX10_answer_90 ?_
      refine v_iald (pc := 91) ly_19 dX10_answer_91 (fun x4 => ?_)
      refine v_iast (pc := 92) ly_12 dX10_answer_92 (fun M5 => ?_)
      refine v_iconst (pc := 93) 0 dX10_answer_93 (by decide) ?_
      refine v_istore (pc := 94) dX10_answer_94 (by decide) ?_
      exact v_sub (wMd_answer_96 l G (fMd_answer_63 fuel) ih FU v1 v2 v3 v4 0 M5) rfl
theorem wMd_answer (l : Launch) (G : zG) (v1 : Int32) (v2 : Int32) (v3 : Int32) (M : zM) : zV eI l G zLY zRY 4 yX10_answer cX10_answer 6 (some .int) 0 [(0, .ref 0), (1, .int v1), (2, .int v2), (3, .int v3)] [] M (fMd_answer v1 v2 v3 M) := by
  rw [fMd_answer]
  refine v_iload_n (pc := 0) dX10_answer_0 rfl ?_
  refine v_i2l (pc := 1) dX10_answer_1 ?_
  refine v_lconst (pc := 2) 0 dX10_answer_2 (by decide) ?_
  refine v_ldc2 (pc := 3) 2 tw_1268 dX10_answer_3 ?_
  refine v_callS (pc := 6) (As := [.long v1.toInt64, .long 0, .long 2]) (cMd_in l G v1.toInt64 0 2 M) zc_X10_in tw_1153 (by decide) (Nat.le_of_ble_eq_true rfl) dX10_answer_6 (fun r2 M1 => ?_)
  refine v_if_ne (pc := 9) 16 dX10_answer_9 (by decide) ?_ ?_
  · refine v_aload_n (pc := 16) dX10_answer_16 rfl ?_
    refine v_iload_n (pc := 17) dX10_answer_17 rfl ?_
    refine v_iload_n (pc := 18) dX10_answer_18 rfl ?_
    refine v_callV (pc := 19) (As := [.int v1, .int v2]) (cMd_isInBook l G v1 v2 M1) zc_X10_isInBook zk10 rfl ly_0 tw_1304 (by decide) (Nat.le_of_ble_eq_true rfl) dX10_answer_19 (fun r4 M3 => ?_)
    refine v_if_eq (pc := 22) 34 dX10_answer_22 (by decide) ?_ ?_
    · refine v_sipush (pc := 34) (-1001) dX10_answer_34 (by decide) ?_
      exact v_iret (pc := 37) dX10_answer_37
    · refine v_aload_n (pc := 25) dX10_answer_25 rfl ?_
      refine v_iload_n (pc := 26) dX10_answer_26 rfl ?_
      refine v_iload_n (pc := 27) dX10_answer_27 rfl ?_
      refine v_callV (pc := 28) (As := [.int v1, .int v3]) (cMd_isInBook l G v1 v3 M3) zc_X10_isInBook zk10 rfl ly_0 tw_1304 (by decide) (Nat.le_of_ble_eq_true rfl) dX10_answer_28 (fun r6 M5 => ?_)
      refine v_if_ne (pc := 31) 38 dX10_answer_31 (by decide) ?_ ?_
      · refine v_aload_n (pc := 38) dX10_answer_38 rfl ?_
        refine v_iload_n (pc := 39) dX10_answer_39 rfl ?_
        refine v_iload_n (pc := 40) dX10_answer_40 rfl ?_
        refine v_callV (pc := 41) (As := [.int v1, .int v2]) (cMd_isDamaged l G v1 v2 M5) zc_X10_isDamaged zk10 rfl ly_0 tw_1329 (by decide) (Nat.le_of_ble_eq_true rfl) dX10_answer_41 (fun r8 M7 => ?_)
        refine v_if_ne (pc := 44) 56 dX10_answer_44 (by decide) ?_ ?_
        · refine v_sipush (pc := 56) (-1005) dX10_answer_56 (by decide) ?_
          exact v_iret (pc := 59) dX10_answer_59
        · refine v_aload_n (pc := 47) dX10_answer_47 rfl ?_
          refine v_iload_n (pc := 48) dX10_answer_48 rfl ?_
          refine v_iload_n (pc := 49) dX10_answer_49 rfl ?_
          refine v_callV (pc := 50) (As := [.int v1, .int v3]) (cMd_isDamaged l G v1 v3 M7) zc_X10_isDamaged zk10 rfl ly_0 tw_1329 (by decide) (Nat.le_of_ble_eq_true rfl) dX10_answer_50 (fun r10 M9 => ?_)
          refine v_if_eq (pc := 53) 60 dX10_answer_53 (by decide) ?_ ?_
          · refine v_iconst (pc := 60) 0 dX10_answer_60 (by decide) ?_
            refine v_istore (pc := 61) dX10_answer_61 (by decide) ?_
            exact v_sub (wMd_answer_63 l G FU v1 v2 v3 0 M9) rfl
          · refine v_sipush (pc := 56) (-1005) dX10_answer_56 (by decide) ?_
            exact v_iret (pc := 59) dX10_answer_59
      · refine v_sipush (pc := 34) (-1001) dX10_answer_34 (by decide) ?_
        exact v_iret (pc := 37) dX10_answer_37
  · refine v_sipush (pc := 12) (-1002) dX10_answer_12 (by decide) ?_
    exact v_iret (pc := 15) dX10_answer_15
theorem cMd_answer (l : Launch) (G : zG) (v1 : Int32) (v2 : Int32) (v3 : Int32) (M : zM) : zC eI l G zLY zRY 4 yX10_answer cX10_answer 6 (some .int) [.ref 0, .int v1, .int v2, .int v3] M (fMd_answer v1 v2 v3 M) := zC.of (by decide) (Nat.le_of_ble_eq_true rfl) (v_sub (wMd_answer l G v1 v2 v3 M) rfl)
