theorem dX8_clear_0 : decode cX8_clear 0 = .ok (.aload_n 0, 1) := by decide +kernel
theorem dX8_clear_1 : decode cX8_clear 1 = .ok (.iconst 0, 1) := by decide +kernel
theorem dX8_clear_2 : decode cX8_clear 2 = .ok (.putfield 9, 3) := by decide +kernel
theorem dX8_clear_5 : decode cX8_clear 5 = .ok (.aload_n 0, 1) := by decide +kernel
theorem dX8_clear_6 : decode cX8_clear 6 = .ok (.iconst 0, 1) := by decide +kernel
theorem dX8_clear_7 : decode cX8_clear 7 = .ok (.putfield 15, 3) := by decide +kernel
theorem dX8_clear_10 : decode cX8_clear 10 = .ok (.aload_n 0, 1) := by decide +kernel
theorem dX8_clear_11 : decode cX8_clear 11 = .ok (.iconst 0, 1) := by decide +kernel
theorem dX8_clear_12 : decode cX8_clear 12 = .ok (.putfield 40, 3) := by decide +kernel
theorem dX8_clear_15 : decode cX8_clear 15 = .ok (.aload_n 0, 1) := by decide +kernel
theorem dX8_clear_16 : decode cX8_clear 16 = .ok (.iconst 0, 1) := by decide +kernel
theorem dX8_clear_17 : decode cX8_clear 17 = .ok (.putfield 43, 3) := by decide +kernel
theorem dX8_clear_20 : decode cX8_clear 20 = .ok (.return_, 1) := by decide +kernel
theorem wTree_clear (l : Launch) (G : zG)  (M : zM) : zV eV l G zLX zRX 1 yX8_clear cX8_clear 1 none 0 [(0, .ref 5)] [] M (fTree_clear  M) := by
  rw [fTree_clear]
  refine v_aload_n (pc := 0) dX8_clear_0 rfl ?_
  refine v_iconst (pc := 1) 0 dX8_clear_1 (by decide) ?_
  refine v_putI (pc := 2) (q := 1) zk8 lx_5 rfl tw_161 rfl rfl rfl dX8_clear_2 (fun M1 => ?_)
  refine v_aload_n (pc := 5) dX8_clear_5 rfl ?_
  refine v_iconst (pc := 6) 0 dX8_clear_6 (by decide) ?_
  refine v_putI (pc := 7) (q := 2) zk8 lx_5 rfl tw_163 rfl rfl rfl dX8_clear_7 (fun M2 => ?_)
  refine v_aload_n (pc := 10) dX8_clear_10 rfl ?_
  refine v_iconst (pc := 11) 0 dX8_clear_11 (by decide) ?_
  refine v_putI (pc := 12) (q := 10) zk8 lx_5 rfl tw_184 rfl rfl rfl dX8_clear_12 (fun M3 => ?_)
  refine v_aload_n (pc := 15) dX8_clear_15 rfl ?_
  refine v_iconst (pc := 16) 0 dX8_clear_16 (by decide) ?_
  refine v_putI (pc := 17) (q := 11) zk8 lx_5 rfl tw_185 rfl rfl rfl dX8_clear_17 (fun M4 => ?_)
  exact v_vret (pc := 20) dX8_clear_20
theorem cTree_clear (l : Launch) (G : zG)  (M : zM) : zC eV l G zLX zRX 1 yX8_clear cX8_clear 1 none [.ref 5] M (fTree_clear  M) := zC.of (by decide) (Nat.le_of_ble_eq_true rfl) (v_sub (wTree_clear l G  M) rfl)
theorem dX8_place_0 : decode cX8_place 0 = .ok (.aload_n 0, 1) := by decide +kernel
theorem dX8_place_1 : decode cX8_place 1 = .ok (.dup, 1) := by decide +kernel
theorem dX8_place_2 : decode cX8_place 2 = .ok (.getfield 43, 3) := by decide +kernel
theorem dX8_place_5 : decode cX8_place 5 = .ok (.iconst 1, 1) := by decide +kernel
theorem dX8_place_6 : decode cX8_place 6 = .ok (.iload_n 1, 1) := by decide +kernel
theorem dX8_place_7 : decode cX8_place 7 = .ok (.ishl, 1) := by decide +kernel
theorem dX8_place_8 : decode cX8_place 8 = .ok (.ior, 1) := by decide +kernel
theorem dX8_place_9 : decode cX8_place 9 = .ok (.putfield 43, 3) := by decide +kernel
theorem dX8_place_12 : decode cX8_place 12 = .ok (.aload_n 0, 1) := by decide +kernel
theorem dX8_place_13 : decode cX8_place 13 = .ok (.getfield 37, 3) := by decide +kernel
theorem dX8_place_16 : decode cX8_place 16 = .ok (.aload_n 0, 1) := by decide +kernel
theorem dX8_place_17 : decode cX8_place 17 = .ok (.getfield 40, 3) := by decide +kernel
theorem dX8_place_20 : decode cX8_place 20 = .ok (.iload_n 1, 1) := by decide +kernel
theorem dX8_place_21 : decode cX8_place 21 = .ok (.iastore, 1) := by decide +kernel
theorem dX8_place_22 : decode cX8_place 22 = .ok (.aload_n 0, 1) := by decide +kernel
theorem dX8_place_23 : decode cX8_place 23 = .ok (.dup, 1) := by decide +kernel
theorem dX8_place_24 : decode cX8_place 24 = .ok (.getfield 40, 3) := by decide +kernel
theorem dX8_place_27 : decode cX8_place 27 = .ok (.iconst 1, 1) := by decide +kernel
theorem dX8_place_28 : decode cX8_place 28 = .ok (.iadd, 1) := by decide +kernel
theorem dX8_place_29 : decode cX8_place 29 = .ok (.putfield 40, 3) := by decide +kernel
theorem dX8_place_32 : decode cX8_place 32 = .ok (.return_, 1) := by decide +kernel
theorem wTree_place (l : Launch) (G : zG) (v1 : Int32) (M : zM) : zV eV l G zLX zRX 1 yX8_place cX8_place 2 none 0 [(0, .ref 5), (1, .int v1)] [] M (fTree_place v1 M) := by
  rw [fTree_place]
  refine v_aload_n (pc := 0) dX8_place_0 rfl ?_
  refine v_dup (pc := 1) dX8_place_1 rfl ?_
  refine v_getI (pc := 2) (q := 11) zk8 lx_5 rfl tw_185 dX8_place_2 ?_
  refine v_iconst (pc := 5) 1 dX8_place_5 (by decide) ?_
  refine v_iload_n (pc := 6) dX8_place_6 rfl ?_
  refine v_ishl (pc := 7) dX8_place_7 ?_
  refine v_ior (pc := 8) dX8_place_8 ?_
  refine v_putI (pc := 9) (q := 11) zk8 lx_5 rfl tw_185 rfl rfl rfl dX8_place_9 (fun M1 => ?_)
  refine v_aload_n (pc := 12) dX8_place_12 rfl ?_
  refine v_getR (pc := 13) (q := 9) zk8 lx_5 rfl rx_5_9 tw_183 dX8_place_13 ?_
  refine v_aload_n (pc := 16) dX8_place_16 rfl ?_
  refine v_getI (pc := 17) (q := 10) zk8 lx_5 rfl tw_184 dX8_place_17 ?_
  refine v_iload_n (pc := 20) dX8_place_20 rfl ?_
  refine v_iast (pc := 21) lx_12 dX8_place_21 (fun M2 => ?_)
  refine v_aload_n (pc := 22) dX8_place_22 rfl ?_
  refine v_dup (pc := 23) dX8_place_23 rfl ?_
  refine v_getI (pc := 24) (q := 10) zk8 lx_5 rfl tw_184 dX8_place_24 ?_
  refine v_iconst (pc := 27) 1 dX8_place_27 (by decide) ?_
  refine v_iadd (pc := 28) dX8_place_28 ?_
  refine v_putI (pc := 29) (q := 10) zk8 lx_5 rfl tw_184 rfl rfl rfl dX8_place_29 (fun M3 => ?_)
  exact v_vret (pc := 32) dX8_place_32
theorem cTree_place (l : Launch) (G : zG) (v1 : Int32) (M : zM) : zC eV l G zLX zRX 1 yX8_place cX8_place 2 none [.ref 5, .int v1] M (fTree_place v1 M) := zC.of (by decide) (Nat.le_of_ble_eq_true rfl) (v_sub (wTree_place l G v1 M) rfl)
theorem dX8_growFrom_0 : decode cX8_growFrom 0 = .ok (.aload_n 0, 1) := by decide +kernel
theorem dX8_growFrom_1 : decode cX8_growFrom 1 = .ok (.getfield 40, 3) := by decide +kernel
theorem dX8_growFrom_4 : decode cX8_growFrom 4 = .ok (.istore_n 2, 1) := by decide +kernel
theorem dX8_growFrom_5 : decode cX8_growFrom 5 = .ok (.aload_n 0, 1) := by decide +kernel
theorem dX8_growFrom_6 : decode cX8_growFrom 6 = .ok (.dup, 1) := by decide +kernel
theorem dX8_growFrom_7 : decode cX8_growFrom 7 = .ok (.getfield 9, 3) := by decide +kernel
theorem dX8_growFrom_10 : decode cX8_growFrom 10 = .ok (.iconst 1, 1) := by decide +kernel
theorem dX8_growFrom_11 : decode cX8_growFrom 11 = .ok (.iadd, 1) := by decide +kernel
theorem dX8_growFrom_12 : decode cX8_growFrom 12 = .ok (.putfield 9, 3) := by decide +kernel
theorem dX8_growFrom_15 : decode cX8_growFrom 15 = .ok (.aload_n 0, 1) := by decide +kernel
theorem dX8_growFrom_16 : decode cX8_growFrom 16 = .ok (.getfield 18, 3) := by decide +kernel
theorem dX8_growFrom_19 : decode cX8_growFrom 19 = .ok (.iload_n 1, 1) := by decide +kernel
theorem dX8_growFrom_20 : decode cX8_growFrom 20 = .ok (.iconst (-1), 1) := by decide +kernel
theorem dX8_growFrom_21 : decode cX8_growFrom 21 = .ok (.iastore, 1) := by decide +kernel
theorem dX8_growFrom_22 : decode cX8_growFrom 22 = .ok (.aload_n 0, 1) := by decide +kernel
theorem dX8_growFrom_23 : decode cX8_growFrom 23 = .ok (.getfield 22, 3) := by decide +kernel
theorem dX8_growFrom_26 : decode cX8_growFrom 26 = .ok (.iload_n 1, 1) := by decide +kernel
theorem dX8_growFrom_27 : decode cX8_growFrom 27 = .ok (.iload_n 1, 1) := by decide +kernel
theorem dX8_growFrom_28 : decode cX8_growFrom 28 = .ok (.iastore, 1) := by decide +kernel
theorem dX8_growFrom_29 : decode cX8_growFrom 29 = .ok (.aload_n 0, 1) := by decide +kernel
theorem dX8_growFrom_30 : decode cX8_growFrom 30 = .ok (.getfield 25, 3) := by decide +kernel
theorem dX8_growFrom_33 : decode cX8_growFrom 33 = .ok (.iload_n 1, 1) := by decide +kernel
theorem dX8_growFrom_34 : decode cX8_growFrom 34 = .ok (.iconst 0, 1) := by decide +kernel
theorem dX8_growFrom_35 : decode cX8_growFrom 35 = .ok (.iastore, 1) := by decide +kernel
theorem dX8_growFrom_36 : decode cX8_growFrom 36 = .ok (.aload_n 0, 1) := by decide +kernel
theorem dX8_growFrom_37 : decode cX8_growFrom 37 = .ok (.iload_n 1, 1) := by decide +kernel
theorem dX8_growFrom_38 : decode cX8_growFrom 38 = .ok (.invokevirtual 83, 3) := by decide +kernel
theorem dX8_growFrom_41 : decode cX8_growFrom 41 = .ok (.iload_n 2, 1) := by decide +kernel
theorem dX8_growFrom_42 : decode cX8_growFrom 42 = .ok (.istore_n 3, 1) := by decide +kernel
theorem dX8_growFrom_43 : decode cX8_growFrom 43 = .ok (.iload_n 3, 1) := by decide +kernel
theorem dX8_growFrom_44 : decode cX8_growFrom 44 = .ok (.aload_n 0, 1) := by decide +kernel
theorem dX8_growFrom_45 : decode cX8_growFrom 45 = .ok (.getfield 40, 3) := by decide +kernel
theorem dX8_growFrom_48 : decode cX8_growFrom 48 = .ok (.if_icmp .ge 141, 3) := by decide +kernel
theorem dX8_growFrom_51 : decode cX8_growFrom 51 = .ok (.iload_n 3, 1) := by decide +kernel
theorem dX8_growFrom_52 : decode cX8_growFrom 52 = .ok (.aload_n 0, 1) := by decide +kernel
theorem dX8_growFrom_53 : decode cX8_growFrom 53 = .ok (.getfield 52, 3) := by decide +kernel
theorem dX8_growFrom_56 : decode cX8_growFrom 56 = .ok (.getfield 64, 3) := by decide +kernel
theorem dX8_growFrom_59 : decode cX8_growFrom 59 = .ok (.if_icmp .ge 130, 3) := by decide +kernel
theorem dX8_growFrom_62 : decode cX8_growFrom 62 = .ok (.aload_n 0, 1) := by decide +kernel
theorem dX8_growFrom_63 : decode cX8_growFrom 63 = .ok (.getfield 37, 3) := by decide +kernel
theorem dX8_growFrom_66 : decode cX8_growFrom 66 = .ok (.iload_n 3, 1) := by decide +kernel
theorem dX8_growFrom_67 : decode cX8_growFrom 67 = .ok (.iaload, 1) := by decide +kernel
theorem dX8_growFrom_68 : decode cX8_growFrom 68 = .ok (.istore 4, 2) := by decide +kernel
theorem dX8_growFrom_70 : decode cX8_growFrom 70 = .ok (.iconst 0, 1) := by decide +kernel
theorem dX8_growFrom_71 : decode cX8_growFrom 71 = .ok (.istore 5, 2) := by decide +kernel
theorem dX8_growFrom_73 : decode cX8_growFrom 73 = .ok (.iload 5, 2) := by decide +kernel
theorem dX8_growFrom_75 : decode cX8_growFrom 75 = .ok (.aload_n 0, 1) := by decide +kernel
theorem dX8_growFrom_76 : decode cX8_growFrom 76 = .ok (.getfield 52, 3) := by decide +kernel
theorem dX8_growFrom_79 : decode cX8_growFrom 79 = .ok (.getfield 64, 3) := by decide +kernel
theorem dX8_growFrom_82 : decode cX8_growFrom 82 = .ok (.if_icmp .ge 101, 3) := by decide +kernel
theorem dX8_growFrom_85 : decode cX8_growFrom 85 = .ok (.aload_n 0, 1) := by decide +kernel
theorem dX8_growFrom_86 : decode cX8_growFrom 86 = .ok (.getfield 52, 3) := by decide +kernel
theorem dX8_growFrom_89 : decode cX8_growFrom 89 = .ok (.iload 4, 2) := by decide +kernel
theorem dX8_growFrom_91 : decode cX8_growFrom 91 = .ok (.iload 5, 2) := by decide +kernel
theorem dX8_growFrom_93 : decode cX8_growFrom 93 = .ok (.invokevirtual 86, 3) := by decide +kernel
theorem dX8_growFrom_96 : decode cX8_growFrom 96 = .ok (.ifCond .eq 81, 3) := by decide +kernel
theorem dX8_growFrom_99 : decode cX8_growFrom 99 = .ok (.aload_n 0, 1) := by decide +kernel
theorem dX8_growFrom_100 : decode cX8_growFrom 100 = .ok (.getfield 43, 3) := by decide +kernel
theorem dX8_growFrom_103 : decode cX8_growFrom 103 = .ok (.iload 5, 2) := by decide +kernel
theorem dX8_growFrom_105 : decode cX8_growFrom 105 = .ok (.ishr, 1) := by decide +kernel
theorem dX8_growFrom_106 : decode cX8_growFrom 106 = .ok (.iconst 1, 1) := by decide +kernel
theorem dX8_growFrom_107 : decode cX8_growFrom 107 = .ok (.iand, 1) := by decide +kernel
theorem dX8_growFrom_108 : decode cX8_growFrom 108 = .ok (.ifCond .ne 69, 3) := by decide +kernel
theorem dX8_growFrom_111 : decode cX8_growFrom 111 = .ok (.iconst 1, 1) := by decide +kernel
theorem dX8_growFrom_112 : decode cX8_growFrom 112 = .ok (.aload_n 0, 1) := by decide +kernel
theorem dX8_growFrom_113 : decode cX8_growFrom 113 = .ok (.getfield 52, 3) := by decide +kernel
theorem dX8_growFrom_116 : decode cX8_growFrom 116 = .ok (.iload 4, 2) := by decide +kernel
theorem dX8_growFrom_118 : decode cX8_growFrom 118 = .ok (.iload 5, 2) := by decide +kernel
theorem dX8_growFrom_120 : decode cX8_growFrom 120 = .ok (.invokevirtual 90, 3) := by decide +kernel
theorem dX8_growFrom_123 : decode cX8_growFrom 123 = .ok (.ishl, 1) := by decide +kernel
theorem dX8_growFrom_124 : decode cX8_growFrom 124 = .ok (.istore 6, 2) := by decide +kernel
theorem dX8_growFrom_126 : decode cX8_growFrom 126 = .ok (.aload_n 0, 1) := by decide +kernel
theorem dX8_growFrom_127 : decode cX8_growFrom 127 = .ok (.dup, 1) := by decide +kernel
theorem dX8_growFrom_128 : decode cX8_growFrom 128 = .ok (.getfield 15, 3) := by decide +kernel
theorem dX8_growFrom_131 : decode cX8_growFrom 131 = .ok (.iload 6, 2) := by decide +kernel
theorem dX8_growFrom_133 : decode cX8_growFrom 133 = .ok (.ior, 1) := by decide +kernel
theorem dX8_growFrom_134 : decode cX8_growFrom 134 = .ok (.putfield 15, 3) := by decide +kernel
theorem dX8_growFrom_137 : decode cX8_growFrom 137 = .ok (.aload_n 0, 1) := by decide +kernel
theorem dX8_growFrom_138 : decode cX8_growFrom 138 = .ok (.getfield 18, 3) := by decide +kernel
theorem dX8_growFrom_141 : decode cX8_growFrom 141 = .ok (.iload 5, 2) := by decide +kernel
theorem dX8_growFrom_143 : decode cX8_growFrom 143 = .ok (.iload 4, 2) := by decide +kernel
theorem dX8_growFrom_145 : decode cX8_growFrom 145 = .ok (.iastore, 1) := by decide +kernel
theorem dX8_growFrom_146 : decode cX8_growFrom 146 = .ok (.aload_n 0, 1) := by decide +kernel
theorem dX8_growFrom_147 : decode cX8_growFrom 147 = .ok (.getfield 22, 3) := by decide +kernel
theorem dX8_growFrom_150 : decode cX8_growFrom 150 = .ok (.iload 5, 2) := by decide +kernel
theorem dX8_growFrom_152 : decode cX8_growFrom 152 = .ok (.iload_n 1, 1) := by decide +kernel
theorem dX8_growFrom_153 : decode cX8_growFrom 153 = .ok (.iastore, 1) := by decide +kernel
theorem dX8_growFrom_154 : decode cX8_growFrom 154 = .ok (.aload_n 0, 1) := by decide +kernel
theorem dX8_growFrom_155 : decode cX8_growFrom 155 = .ok (.getfield 25, 3) := by decide +kernel
theorem dX8_growFrom_158 : decode cX8_growFrom 158 = .ok (.iload 5, 2) := by decide +kernel
theorem dX8_growFrom_160 : decode cX8_growFrom 160 = .ok (.aload_n 0, 1) := by decide +kernel
theorem dX8_growFrom_161 : decode cX8_growFrom 161 = .ok (.getfield 25, 3) := by decide +kernel
theorem dX8_growFrom_164 : decode cX8_growFrom 164 = .ok (.iload 4, 2) := by decide +kernel
theorem dX8_growFrom_166 : decode cX8_growFrom 166 = .ok (.iaload, 1) := by decide +kernel
theorem dX8_growFrom_167 : decode cX8_growFrom 167 = .ok (.iload 6, 2) := by decide +kernel
theorem dX8_growFrom_169 : decode cX8_growFrom 169 = .ok (.ior, 1) := by decide +kernel
theorem dX8_growFrom_170 : decode cX8_growFrom 170 = .ok (.iastore, 1) := by decide +kernel
theorem dX8_growFrom_171 : decode cX8_growFrom 171 = .ok (.aload_n 0, 1) := by decide +kernel
theorem dX8_growFrom_172 : decode cX8_growFrom 172 = .ok (.iload 5, 2) := by decide +kernel
theorem dX8_growFrom_174 : decode cX8_growFrom 174 = .ok (.invokevirtual 83, 3) := by decide +kernel
theorem dX8_growFrom_177 : decode cX8_growFrom 177 = .ok (.iinc 5 1, 3) := by decide +kernel
theorem dX8_growFrom_180 : decode cX8_growFrom 180 = .ok (.goto (-107), 3) := by decide +kernel
theorem dX8_growFrom_183 : decode cX8_growFrom 183 = .ok (.iinc 3 1, 3) := by decide +kernel
theorem dX8_growFrom_186 : decode cX8_growFrom 186 = .ok (.goto (-143), 3) := by decide +kernel
theorem dX8_growFrom_189 : decode cX8_growFrom 189 = .ok (.return_, 1) := by decide +kernel
theorem wTree_growFrom_73 (l : Launch) (G : zG) (k43 : Int32 → Int32 → zM → Option (Unit × zM)) (hk43 : ∀ (v1 : Int32) (v3 : Int32) (M : zM), zV eV l G zLX zRX 2 yX8_growFrom cX8_growFrom 7 none 43 [(0, .ref 5), (1, .int v1), (3, .int v3)] [] M (k43 v1 v3 M)) : ∀ (fuel : Nat) (v1 : Int32) (v3 : Int32) (v4 : Int32) (v5 : Int32) (M : zM), zV eV l G zLX zRX 2 yX8_growFrom cX8_growFrom 7 none 73 [(0, .ref 5), (1, .int v1), (3, .int v3), (4, .int v4), (5, .int v5)] [] M (fTree_growFrom_73 k43 fuel v1 v3 v4 v5 M) := by
  intro fuel
  induction fuel with
  | zero => intro v1 v3 v4 v5 M; exact v_none
  | succ fuel ih =>
    intro v1 v3 v4 v5 M
    rw [fTree_growFrom_73]
    refine v_iload (pc := 73) dX8_growFrom_73 rfl ?_
    refine v_aload_n (pc := 75) dX8_growFrom_75 rfl ?_
    refine v_getR (pc := 76) (q := 0) zk8 lx_5 rfl rx_5_0 tw_160 dX8_growFrom_76 ?_
    refine v_getI (pc := 79) (q := 0) zk3 lx_1 rfl tw_115 dX8_growFrom_79 ?_
    refine v_icmp_ge (pc := 82) 183 dX8_growFrom_82 (by decide) ?_ ?_
    · refine v_iinc (pc := 183) 1 dX8_growFrom_183 rfl (by decide) (by decide) ?_
      refine v_goto (pc := 186) 43 dX8_growFrom_186 (by decide) ?_
      exact v_sub (hk43 v1 (v3 + 1) M) rfl
    · refine v_aload_n (pc := 85) dX8_growFrom_85 rfl ?_
      refine v_getR (pc := 86) (q := 0) zk8 lx_5 rfl rx_5_0 tw_160 dX8_growFrom_86 ?_
      refine v_iload (pc := 89) dX8_growFrom_89 rfl ?_
      refine v_iload (pc := 91) dX8_growFrom_91 rfl ?_
      refine v_callV (pc := 93) (As := [.int v4, .int v5]) (cNet_joins l G v4 v5 M) zc_X3_joins zk3 rfl lx_1 tw_527 (by decide) (Nat.le_of_ble_eq_true rfl) dX8_growFrom_93 (fun r2 M1 => ?_)
      refine v_if_eq (pc := 96) 177 dX8_growFrom_96 (by decide) ?_ ?_
      · refine v_iinc (pc := 177) 1 dX8_growFrom_177 rfl (by decide) (by decide) ?_
        refine v_goto (pc := 180) 73 dX8_growFrom_180 (by decide) ?_
        exact v_sub (ih v1 v3 v4 (v5 + 1) M1) rfl
      · refine v_aload_n (pc := 99) dX8_growFrom_99 rfl ?_
        refine v_getI (pc := 100) (q := 11) zk8 lx_5 rfl tw_185 dX8_growFrom_100 ?_
        refine v_iload (pc := 103) dX8_growFrom_103 rfl ?_
        refine v_ishr (pc := 105) dX8_growFrom_105 ?_
        refine v_iconst (pc := 106) 1 dX8_growFrom_106 (by decide) ?_
        refine v_iand (pc := 107) dX8_growFrom_107 ?_
        refine v_if_ne (pc := 108) 177 dX8_growFrom_108 (by decide) ?_ ?_
        · refine v_iinc (pc := 177) 1 dX8_growFrom_177 rfl (by decide) (by decide) ?_
          refine v_goto (pc := 180) 73 dX8_growFrom_180 (by decide) ?_
          exact v_sub (ih v1 v3 v4 (v5 + 1) M1) rfl
        · refine v_iconst (pc := 111) 1 dX8_growFrom_111 (by decide) ?_
          refine v_aload_n (pc := 112) dX8_growFrom_112 rfl ?_
          refine v_getR (pc := 113) (q := 0) zk8 lx_5 rfl rx_5_0 tw_160 dX8_growFrom_113 ?_
          refine v_iload (pc := 116) dX8_growFrom_116 rfl ?_
          refine v_iload (pc := 118) dX8_growFrom_118 rfl ?_
          refine v_callV (pc := 120) (As := [.int v4, .int v5]) (cNet_lineBetween l G v4 v5 M1) zc_X3_lineBetween zk3 rfl lx_1 tw_528 (by decide) (Nat.le_of_ble_eq_true rfl) dX8_growFrom_120 (fun r4 M3 => ?_)
          refine v_ishl (pc := 123) dX8_growFrom_123 ?_
          refine v_istoreL (pc := 124) dX8_growFrom_124 (by decide) (fun u6_124 => ?_)
          refine v_aload_n (pc := 126) dX8_growFrom_126 rfl ?_
          refine v_dup (pc := 127) dX8_growFrom_127 rfl ?_
          refine v_getI (pc := 128) (q := 2) zk8 lx_5 rfl tw_163 dX8_growFrom_128 ?_
          refine v_iload (pc := 131) dX8_growFrom_131 rfl ?_
          refine v_ior (pc := 133) dX8_growFrom_133 ?_
          refine v_putI (pc := 134) (q := 2) zk8 lx_5 rfl tw_163 rfl rfl rfl dX8_growFrom_134 (fun M5 => ?_)
          refine v_aload_n (pc := 137) dX8_growFrom_137 rfl ?_
          refine v_getR (pc := 138) (q := 3) zk8 lx_5 rfl rx_5_3 tw_165 dX8_growFrom_138 ?_
          refine v_iload (pc := 141) dX8_growFrom_141 rfl ?_
          refine v_iload (pc := 143) dX8_growFrom_143 rfl ?_
          refine v_iast (pc := 145) lx_6 dX8_growFrom_145 (fun M6 => ?_)
          refine v_aload_n (pc := 146) dX8_growFrom_146 rfl ?_
          refine v_getR (pc := 147) (q := 4) zk8 lx_5 rfl rx_5_4 tw_168 dX8_growFrom_147 ?_
          refine v_iload (pc := 150) dX8_growFrom_150 rfl ?_
          refine v_iload_n (pc := 152) dX8_growFrom_152 rfl ?_
          refine v_iast (pc := 153) lx_7 dX8_growFrom_153 (fun M7 => ?_)
          refine v_aload_n (pc := 154) dX8_growFrom_154 rfl ?_
          refine v_getR (pc := 155) (q := 5) zk8 lx_5 rfl rx_5_5 tw_172 dX8_growFrom_155 ?_
          refine v_iload (pc := 158) dX8_growFrom_158 rfl ?_
          refine v_aload_n (pc := 160) dX8_growFrom_160 rfl ?_
          refine v_getR (pc := 161) (q := 5) zk8 lx_5 rfl rx_5_5 tw_172 dX8_growFrom_161 ?_
          refine v_iload (pc := 164) dX8_growFrom_164 rfl ?_
          refine v_iald (pc := 166) lx_8 dX8_growFrom_166 (fun x8 => ?_)
          refine v_iload (pc := 167) dX8_growFrom_167 rfl ?_
          refine v_ior (pc := 169) dX8_growFrom_169 ?_
          refine v_iast (pc := 170) lx_8 dX8_growFrom_170 (fun M9 => ?_)
          refine v_aload_n (pc := 171) dX8_growFrom_171 rfl ?_
          refine v_iload (pc := 172) dX8_growFrom_172 rfl ?_
          refine v_callV (pc := 174) (As := [.int v5]) (cTree_place l G v5 M9) zc_X8_place zk8 rfl lx_5 tw_523 (by decide) (Nat.le_of_ble_eq_true rfl) dX8_growFrom_174 (fun _ M10 => ?_)
          skip
          refine v_iinc (pc := 177) 1 dX8_growFrom_177 rfl (by decide) (by decide) ?_
          refine v_goto (pc := 180) 73 dX8_growFrom_180 (by decide) ?_
          exact v_sub (ih v1 v3 v4 (v5 + 1) M10) rfl
theorem wTree_growFrom_43 (l : Launch) (G : zG) : ∀ (fuel : Nat) (v1 : Int32) (v3 : Int32) (M : zM), zV eV l G zLX zRX 2 yX8_growFrom cX8_growFrom 7 none 43 [(0, .ref 5), (1, .int v1), (3, .int v3)] [] M (fTree_growFrom_43 fuel v1 v3 M) := by
  intro fuel
  induction fuel with
  | zero => intro v1 v3 M; exact v_none
  | succ fuel ih =>
    intro v1 v3 M
    rw [fTree_growFrom_43]
    refine v_iload_n (pc := 43) dX8_growFrom_43 rfl ?_
    refine v_aload_n (pc := 44) dX8_growFrom_44 rfl ?_
    refine v_getI (pc := 45) (q := 10) zk8 lx_5 rfl tw_184 dX8_growFrom_45 ?_
    refine v_icmp_ge (pc := 48) 189 dX8_growFrom_48 (by decide) ?_ ?_
    · exact v_vret (pc := 189) dX8_growFrom_189
    · refine v_iload_n (pc := 51) dX8_growFrom_51 rfl ?_
      refine v_aload_n (pc := 52) dX8_growFrom_52 rfl ?_
      refine v_getR (pc := 53) (q := 0) zk8 lx_5 rfl rx_5_0 tw_160 dX8_growFrom_53 ?_
      refine v_getI (pc := 56) (q := 0) zk3 lx_1 rfl tw_115 dX8_growFrom_56 ?_
      refine v_icmp_ge (pc := 59) 189 dX8_growFrom_59 (by decide) ?_ ?_
      · exact v_vret (pc := 189) dX8_growFrom_189
      · refine v_aload_n (pc := 62) dX8_growFrom_62 rfl ?_
        refine v_getR (pc := 63) (q := 9) zk8 lx_5 rfl rx_5_9 tw_183 dX8_growFrom_63 ?_
        refine v_iload_n (pc := 66) dX8_growFrom_66 rfl ?_
        refine v_iald (pc := 67) lx_12 dX8_growFrom_67 (fun x1 => ?_)
        refine v_istore (pc := 68) dX8_growFrom_68 (by decide) ?_
        refine v_iconst (pc := 70) 0 dX8_growFrom_70 (by decide) ?_
        refine v_istore (pc := 71) dX8_growFrom_71 (by decide) ?_
        exact v_sub (wTree_growFrom_73 l G (fTree_growFrom_43 fuel) ih FU v1 v3 x1 0 M) rfl
theorem wTree_growFrom (l : Launch) (G : zG) (v1 : Int32) (M : zM) : zV eV l G zLX zRX 2 yX8_growFrom cX8_growFrom 7 none 0 [(0, .ref 5), (1, .int v1)] [] M (fTree_growFrom v1 M) := by
  rw [fTree_growFrom]
  refine v_aload_n (pc := 0) dX8_growFrom_0 rfl ?_
  refine v_getI (pc := 1) (q := 10) zk8 lx_5 rfl tw_184 dX8_growFrom_1 ?_
  refine v_istore_nL (pc := 4) dX8_growFrom_4 (by decide) (fun u2_4 => ?_)
  refine v_aload_n (pc := 5) dX8_growFrom_5 rfl ?_
  refine v_dup (pc := 6) dX8_growFrom_6 rfl ?_
  refine v_getI (pc := 7) (q := 1) zk8 lx_5 rfl tw_161 dX8_growFrom_7 ?_
  refine v_iconst (pc := 10) 1 dX8_growFrom_10 (by decide) ?_
  refine v_iadd (pc := 11) dX8_growFrom_11 ?_
  refine v_putI (pc := 12) (q := 1) zk8 lx_5 rfl tw_161 rfl rfl rfl dX8_growFrom_12 (fun M1 => ?_)
  refine v_aload_n (pc := 15) dX8_growFrom_15 rfl ?_
  refine v_getR (pc := 16) (q := 3) zk8 lx_5 rfl rx_5_3 tw_165 dX8_growFrom_16 ?_
  refine v_iload_n (pc := 19) dX8_growFrom_19 rfl ?_
  refine v_iconst (pc := 20) (-1) dX8_growFrom_20 (by decide) ?_
  refine v_iast (pc := 21) lx_6 dX8_growFrom_21 (fun M2 => ?_)
  refine v_aload_n (pc := 22) dX8_growFrom_22 rfl ?_
  refine v_getR (pc := 23) (q := 4) zk8 lx_5 rfl rx_5_4 tw_168 dX8_growFrom_23 ?_
  refine v_iload_n (pc := 26) dX8_growFrom_26 rfl ?_
  refine v_iload_n (pc := 27) dX8_growFrom_27 rfl ?_
  refine v_iast (pc := 28) lx_7 dX8_growFrom_28 (fun M3 => ?_)
  refine v_aload_n (pc := 29) dX8_growFrom_29 rfl ?_
  refine v_getR (pc := 30) (q := 5) zk8 lx_5 rfl rx_5_5 tw_172 dX8_growFrom_30 ?_
  refine v_iload_n (pc := 33) dX8_growFrom_33 rfl ?_
  refine v_iconst (pc := 34) 0 dX8_growFrom_34 (by decide) ?_
  refine v_iast (pc := 35) lx_8 dX8_growFrom_35 (fun M4 => ?_)
  refine v_aload_n (pc := 36) dX8_growFrom_36 rfl ?_
  refine v_iload_n (pc := 37) dX8_growFrom_37 rfl ?_
  refine v_callV (pc := 38) (As := [.int v1]) (cTree_place l G v1 M4) zc_X8_place zk8 rfl lx_5 tw_523 (by decide) (Nat.le_of_ble_eq_true rfl) dX8_growFrom_38 (fun _ M5 => ?_)
  skip
  refine v_iload_n (pc := 41) dX8_growFrom_41 rfl ?_
  refine v_istore_n (pc := 42) dX8_growFrom_42 (by decide) ?_
  exact v_sub (wTree_growFrom_43 l G FU v1 u2_4 M5) rfl
theorem cTree_growFrom (l : Launch) (G : zG) (v1 : Int32) (M : zM) : zC eV l G zLX zRX 2 yX8_growFrom cX8_growFrom 7 none [.ref 5, .int v1] M (fTree_growFrom v1 M) := zC.of (by decide) (Nat.le_of_ble_eq_true rfl) (v_sub (wTree_growFrom l G v1 M) rfl)
theorem dX8_numberPosts_0 : decode cX8_numberPosts 0 = .ok (.aload_n 0, 1) := by decide +kernel
theorem dX8_numberPosts_1 : decode cX8_numberPosts 1 = .ok (.getfield 46, 3) := by decide +kernel
theorem dX8_numberPosts_4 : decode cX8_numberPosts 4 = .ok (.iconst 1, 1) := by decide +kernel
theorem dX8_numberPosts_5 : decode cX8_numberPosts 5 = .ok (.invokestatic 94, 3) := by decide +kernel
theorem dX8_numberPosts_8 : decode cX8_numberPosts 8 = .ok (.aload_n 0, 1) := by decide +kernel
theorem dX8_numberPosts_9 : decode cX8_numberPosts 9 = .ok (.getfield 40, 3) := by decide +kernel
theorem dX8_numberPosts_12 : decode cX8_numberPosts 12 = .ok (.iconst 1, 1) := by decide +kernel
theorem dX8_numberPosts_13 : decode cX8_numberPosts 13 = .ok (.isub, 1) := by decide +kernel
theorem dX8_numberPosts_14 : decode cX8_numberPosts 14 = .ok (.istore_n 1, 1) := by decide +kernel
theorem dX8_numberPosts_15 : decode cX8_numberPosts 15 = .ok (.iload_n 1, 1) := by decide +kernel
theorem dX8_numberPosts_16 : decode cX8_numberPosts 16 = .ok (.ifCond .lt 46, 3) := by decide +kernel
theorem dX8_numberPosts_19 : decode cX8_numberPosts 19 = .ok (.aload_n 0, 1) := by decide +kernel
theorem dX8_numberPosts_20 : decode cX8_numberPosts 20 = .ok (.getfield 37, 3) := by decide +kernel
theorem dX8_numberPosts_23 : decode cX8_numberPosts 23 = .ok (.iload_n 1, 1) := by decide +kernel
theorem dX8_numberPosts_24 : decode cX8_numberPosts 24 = .ok (.iaload, 1) := by decide +kernel
theorem dX8_numberPosts_25 : decode cX8_numberPosts 25 = .ok (.istore_n 2, 1) := by decide +kernel
theorem dX8_numberPosts_26 : decode cX8_numberPosts 26 = .ok (.aload_n 0, 1) := by decide +kernel
theorem dX8_numberPosts_27 : decode cX8_numberPosts 27 = .ok (.getfield 18, 3) := by decide +kernel
theorem dX8_numberPosts_30 : decode cX8_numberPosts 30 = .ok (.iload_n 2, 1) := by decide +kernel
theorem dX8_numberPosts_31 : decode cX8_numberPosts 31 = .ok (.iaload, 1) := by decide +kernel
theorem dX8_numberPosts_32 : decode cX8_numberPosts 32 = .ok (.iconst (-1), 1) := by decide +kernel
theorem dX8_numberPosts_33 : decode cX8_numberPosts 33 = .ok (.if_icmp .eq 23, 3) := by decide +kernel
theorem dX8_numberPosts_36 : decode cX8_numberPosts 36 = .ok (.aload_n 0, 1) := by decide +kernel
theorem dX8_numberPosts_37 : decode cX8_numberPosts 37 = .ok (.getfield 46, 3) := by decide +kernel
theorem dX8_numberPosts_40 : decode cX8_numberPosts 40 = .ok (.aload_n 0, 1) := by decide +kernel
theorem dX8_numberPosts_41 : decode cX8_numberPosts 41 = .ok (.getfield 18, 3) := by decide +kernel
theorem dX8_numberPosts_44 : decode cX8_numberPosts 44 = .ok (.iload_n 2, 1) := by decide +kernel
theorem dX8_numberPosts_45 : decode cX8_numberPosts 45 = .ok (.iaload, 1) := by decide +kernel
theorem dX8_numberPosts_46 : decode cX8_numberPosts 46 = .ok (.dup2, 1) := by decide +kernel
theorem dX8_numberPosts_47 : decode cX8_numberPosts 47 = .ok (.iaload, 1) := by decide +kernel
theorem dX8_numberPosts_48 : decode cX8_numberPosts 48 = .ok (.aload_n 0, 1) := by decide +kernel
theorem dX8_numberPosts_49 : decode cX8_numberPosts 49 = .ok (.getfield 46, 3) := by decide +kernel
theorem dX8_numberPosts_52 : decode cX8_numberPosts 52 = .ok (.iload_n 2, 1) := by decide +kernel
theorem dX8_numberPosts_53 : decode cX8_numberPosts 53 = .ok (.iaload, 1) := by decide +kernel
theorem dX8_numberPosts_54 : decode cX8_numberPosts 54 = .ok (.iadd, 1) := by decide +kernel
theorem dX8_numberPosts_55 : decode cX8_numberPosts 55 = .ok (.iastore, 1) := by decide +kernel
theorem dX8_numberPosts_56 : decode cX8_numberPosts 56 = .ok (.iinc 1 (-1), 3) := by decide +kernel
theorem dX8_numberPosts_59 : decode cX8_numberPosts 59 = .ok (.goto (-44), 3) := by decide +kernel
theorem dX8_numberPosts_62 : decode cX8_numberPosts 62 = .ok (.iconst 0, 1) := by decide +kernel
theorem dX8_numberPosts_63 : decode cX8_numberPosts 63 = .ok (.istore_n 1, 1) := by decide +kernel
theorem dX8_numberPosts_64 : decode cX8_numberPosts 64 = .ok (.iconst 0, 1) := by decide +kernel
theorem dX8_numberPosts_65 : decode cX8_numberPosts 65 = .ok (.istore_n 2, 1) := by decide +kernel
theorem dX8_numberPosts_66 : decode cX8_numberPosts 66 = .ok (.iload_n 2, 1) := by decide +kernel
theorem dX8_numberPosts_67 : decode cX8_numberPosts 67 = .ok (.aload_n 0, 1) := by decide +kernel
theorem dX8_numberPosts_68 : decode cX8_numberPosts 68 = .ok (.getfield 40, 3) := by decide +kernel
theorem dX8_numberPosts_71 : decode cX8_numberPosts 71 = .ok (.if_icmp .ge 95, 3) := by decide +kernel
theorem dX8_numberPosts_74 : decode cX8_numberPosts 74 = .ok (.aload_n 0, 1) := by decide +kernel
theorem dX8_numberPosts_75 : decode cX8_numberPosts 75 = .ok (.getfield 37, 3) := by decide +kernel
theorem dX8_numberPosts_78 : decode cX8_numberPosts 78 = .ok (.iload_n 2, 1) := by decide +kernel
theorem dX8_numberPosts_79 : decode cX8_numberPosts 79 = .ok (.iaload, 1) := by decide +kernel
theorem dX8_numberPosts_80 : decode cX8_numberPosts 80 = .ok (.istore_n 3, 1) := by decide +kernel
theorem dX8_numberPosts_81 : decode cX8_numberPosts 81 = .ok (.aload_n 0, 1) := by decide +kernel
theorem dX8_numberPosts_82 : decode cX8_numberPosts 82 = .ok (.getfield 18, 3) := by decide +kernel
theorem dX8_numberPosts_85 : decode cX8_numberPosts 85 = .ok (.iload_n 3, 1) := by decide +kernel
theorem dX8_numberPosts_86 : decode cX8_numberPosts 86 = .ok (.iaload, 1) := by decide +kernel
theorem dX8_numberPosts_87 : decode cX8_numberPosts 87 = .ok (.istore 4, 2) := by decide +kernel
theorem dX8_numberPosts_89 : decode cX8_numberPosts 89 = .ok (.aload_n 0, 1) := by decide +kernel
theorem dX8_numberPosts_90 : decode cX8_numberPosts 90 = .ok (.getfield 28, 3) := by decide +kernel
theorem dX8_numberPosts_93 : decode cX8_numberPosts 93 = .ok (.iload_n 3, 1) := by decide +kernel
theorem dX8_numberPosts_94 : decode cX8_numberPosts 94 = .ok (.iload 4, 2) := by decide +kernel
theorem dX8_numberPosts_96 : decode cX8_numberPosts 96 = .ok (.iconst (-1), 1) := by decide +kernel
theorem dX8_numberPosts_97 : decode cX8_numberPosts 97 = .ok (.if_icmp .ne 7, 3) := by decide +kernel
theorem dX8_numberPosts_100 : decode cX8_numberPosts 100 = .ok (.iload_n 1, 1) := by decide +kernel
theorem dX8_numberPosts_101 : decode cX8_numberPosts 101 = .ok (.goto 12, 3) := by decide +kernel
theorem dX8_numberPosts_104 : decode cX8_numberPosts 104 = .ok (.aload_n 0, 1) := by decide +kernel
theorem dX8_numberPosts_105 : decode cX8_numberPosts 105 = .ok (.getfield 31, 3) := by decide +kernel
theorem dX8_numberPosts_108 : decode cX8_numberPosts 108 = .ok (.iload 4, 2) := by decide +kernel
theorem dX8_numberPosts_110 : decode cX8_numberPosts 110 = .ok (.iaload, 1) := by decide +kernel
theorem dX8_numberPosts_111 : decode cX8_numberPosts 111 = .ok (.iconst 1, 1) := by decide +kernel
theorem dX8_numberPosts_112 : decode cX8_numberPosts 112 = .ok (.iadd, 1) := by decide +kernel
theorem dX8_numberPosts_113 : decode cX8_numberPosts 113 = .ok (.iastore, 1) := by decide +kernel
theorem dX8_numberPosts_114 : decode cX8_numberPosts 114 = .ok (.aload_n 0, 1) := by decide +kernel
theorem dX8_numberPosts_115 : decode cX8_numberPosts 115 = .ok (.getfield 31, 3) := by decide +kernel
theorem dX8_numberPosts_118 : decode cX8_numberPosts 118 = .ok (.iload_n 3, 1) := by decide +kernel
theorem dX8_numberPosts_119 : decode cX8_numberPosts 119 = .ok (.aload_n 0, 1) := by decide +kernel
theorem dX8_numberPosts_120 : decode cX8_numberPosts 120 = .ok (.getfield 28, 3) := by decide +kernel
theorem dX8_numberPosts_123 : decode cX8_numberPosts 123 = .ok (.iload_n 3, 1) := by decide +kernel
theorem dX8_numberPosts_124 : decode cX8_numberPosts 124 = .ok (.iaload, 1) := by decide +kernel
theorem dX8_numberPosts_125 : decode cX8_numberPosts 125 = .ok (.iastore, 1) := by decide +kernel
theorem dX8_numberPosts_126 : decode cX8_numberPosts 126 = .ok (.iload 4, 2) := by decide +kernel
theorem dX8_numberPosts_128 : decode cX8_numberPosts 128 = .ok (.iconst (-1), 1) := by decide +kernel
theorem dX8_numberPosts_129 : decode cX8_numberPosts 129 = .ok (.if_icmp .ne 15, 3) := by decide +kernel
theorem dX8_numberPosts_132 : decode cX8_numberPosts 132 = .ok (.iload_n 1, 1) := by decide +kernel
theorem dX8_numberPosts_133 : decode cX8_numberPosts 133 = .ok (.aload_n 0, 1) := by decide +kernel
theorem dX8_numberPosts_134 : decode cX8_numberPosts 134 = .ok (.getfield 46, 3) := by decide +kernel
theorem dX8_numberPosts_137 : decode cX8_numberPosts 137 = .ok (.iload_n 3, 1) := by decide +kernel
theorem dX8_numberPosts_138 : decode cX8_numberPosts 138 = .ok (.iaload, 1) := by decide +kernel
theorem dX8_numberPosts_139 : decode cX8_numberPosts 139 = .ok (.iadd, 1) := by decide +kernel
theorem dX8_numberPosts_140 : decode cX8_numberPosts 140 = .ok (.istore_n 1, 1) := by decide +kernel
theorem dX8_numberPosts_141 : decode cX8_numberPosts 141 = .ok (.goto 19, 3) := by decide +kernel
theorem dX8_numberPosts_144 : decode cX8_numberPosts 144 = .ok (.aload_n 0, 1) := by decide +kernel
theorem dX8_numberPosts_145 : decode cX8_numberPosts 145 = .ok (.getfield 31, 3) := by decide +kernel
theorem dX8_numberPosts_148 : decode cX8_numberPosts 148 = .ok (.iload 4, 2) := by decide +kernel
theorem dX8_numberPosts_150 : decode cX8_numberPosts 150 = .ok (.dup2, 1) := by decide +kernel
theorem dX8_numberPosts_151 : decode cX8_numberPosts 151 = .ok (.iaload, 1) := by decide +kernel
theorem dX8_numberPosts_152 : decode cX8_numberPosts 152 = .ok (.aload_n 0, 1) := by decide +kernel
theorem dX8_numberPosts_153 : decode cX8_numberPosts 153 = .ok (.getfield 46, 3) := by decide +kernel
theorem dX8_numberPosts_156 : decode cX8_numberPosts 156 = .ok (.iload_n 3, 1) := by decide +kernel
theorem dX8_numberPosts_157 : decode cX8_numberPosts 157 = .ok (.iaload, 1) := by decide +kernel
theorem dX8_numberPosts_158 : decode cX8_numberPosts 158 = .ok (.iadd, 1) := by decide +kernel
theorem dX8_numberPosts_159 : decode cX8_numberPosts 159 = .ok (.iastore, 1) := by decide +kernel
theorem dX8_numberPosts_160 : decode cX8_numberPosts 160 = .ok (.iinc 2 1, 3) := by decide +kernel
theorem dX8_numberPosts_163 : decode cX8_numberPosts 163 = .ok (.goto (-97), 3) := by decide +kernel
theorem dX8_numberPosts_166 : decode cX8_numberPosts 166 = .ok (.return_, 1) := by decide +kernel
theorem wTree_numberPosts_113 (l : Launch) (G : zG) (k66 : Int32 → Int32 → zM → Option (Unit × zM)) (hk66 : ∀ (v1 : Int32) (v2 : Int32) (M : zM), zV eV l G zLX zRX 2 yX8_numberPosts cX8_numberPosts 5 none 66 [(0, .ref 5), (1, .int v1), (2, .int v2)] [] M (k66 v1 v2 M)) (v1 : Int32) (v2 : Int32) (v3 : Int32) (v4 : Int32) (vs0 : Int32) (vs1 : Int32) (M : zM) : zV eV l G zLX zRX 2 yX8_numberPosts cX8_numberPosts 5 none 113 [(0, .ref 5), (1, .int v1), (2, .int v2), (3, .int v3), (4, .int v4)] [.int vs0, .int vs1, .ref 9] M (fTree_numberPosts_113 k66 v1 v2 v3 v4 vs0 vs1 M) := by
  rw [fTree_numberPosts_113]
  refine v_iast (pc := 113) lx_9 dX8_numberPosts_113 (fun M1 => ?_)
  refine v_aload_n (pc := 114) dX8_numberPosts_114 rfl ?_
  refine v_getR (pc := 115) (q := 7) zk8 lx_5 rfl rx_5_7 tw_178 dX8_numberPosts_115 ?_
  refine v_iload_n (pc := 118) dX8_numberPosts_118 rfl ?_
  refine v_aload_n (pc := 119) dX8_numberPosts_119 rfl ?_
  refine v_getR (pc := 120) (q := 6) zk8 lx_5 rfl rx_5_6 tw_176 dX8_numberPosts_120 ?_
  refine v_iload_n (pc := 123) dX8_numberPosts_123 rfl ?_
  refine v_iald (pc := 124) lx_9 dX8_numberPosts_124 (fun x2 => ?_)
  refine v_iast (pc := 125) lx_10 dX8_numberPosts_125 (fun M3 => ?_)
  refine v_iload (pc := 126) dX8_numberPosts_126 rfl ?_
  refine v_iconst (pc := 128) (-1) dX8_numberPosts_128 (by decide) ?_
  refine v_icmp_ne (pc := 129) 144 dX8_numberPosts_129 (by decide) ?_ ?_
  · refine v_aload_n (pc := 144) dX8_numberPosts_144 rfl ?_
    refine v_getR (pc := 145) (q := 7) zk8 lx_5 rfl rx_5_7 tw_178 dX8_numberPosts_145 ?_
    refine v_iload (pc := 148) dX8_numberPosts_148 rfl ?_
    refine v_dup2 (pc := 150) dX8_numberPosts_150 rfl rfl ?_
    refine v_iald (pc := 151) lx_10 dX8_numberPosts_151 (fun x4 => ?_)
    refine v_aload_n (pc := 152) dX8_numberPosts_152 rfl ?_
    refine v_getR (pc := 153) (q := 12) zk8 lx_5 rfl rx_5_12 tw_186 dX8_numberPosts_153 ?_
    refine v_iload_n (pc := 156) dX8_numberPosts_156 rfl ?_
    refine v_iald (pc := 157) lx_13 dX8_numberPosts_157 (fun x5 => ?_)
    refine v_iadd (pc := 158) dX8_numberPosts_158 ?_
    refine v_iast (pc := 159) lx_10 dX8_numberPosts_159 (fun M6 => ?_)
    refine v_iinc (pc := 160) 1 dX8_numberPosts_160 rfl (by decide) (by decide) ?_
    refine v_goto (pc := 163) 66 dX8_numberPosts_163 (by decide) ?_
    exact v_sub (hk66 v1 (v2 + 1) M6) rfl
  · refine v_iload_n (pc := 132) dX8_numberPosts_132 rfl ?_
    refine v_aload_n (pc := 133) dX8_numberPosts_133 rfl ?_
    refine v_getR (pc := 134) (q := 12) zk8 lx_5 rfl rx_5_12 tw_186 dX8_numberPosts_134 ?_
    refine v_iload_n (pc := 137) dX8_numberPosts_137 rfl ?_
    refine v_iald (pc := 138) lx_13 dX8_numberPosts_138 (fun x7 => ?_)
    refine v_iadd (pc := 139) dX8_numberPosts_139 ?_
    refine v_istore_nL (pc := 140) dX8_numberPosts_140 (by decide) (fun u1_140 => ?_)
    refine v_goto (pc := 141) 160 dX8_numberPosts_141 (by decide) ?_
    refine v_iinc (pc := 160) 1 dX8_numberPosts_160 rfl (by decide) (by decide) ?_
    refine v_goto (pc := 163) 66 dX8_numberPosts_163 (by decide) ?_
    exact v_sub (hk66 u1_140 (v2 + 1) M3) rfl
theorem wTree_numberPosts_66 (l : Launch) (G : zG) : ∀ (fuel : Nat) (v1 : Int32) (v2 : Int32) (M : zM), zV eV l G zLX zRX 2 yX8_numberPosts cX8_numberPosts 5 none 66 [(0, .ref 5), (1, .int v1), (2, .int v2)] [] M (fTree_numberPosts_66 fuel v1 v2 M) := by
  intro fuel
  induction fuel with
  | zero => intro v1 v2 M; exact v_none
  | succ fuel ih =>
    intro v1 v2 M
    rw [fTree_numberPosts_66]
    refine v_iload_n (pc := 66) dX8_numberPosts_66 rfl ?_
    refine v_aload_n (pc := 67) dX8_numberPosts_67 rfl ?_
    refine v_getI (pc := 68) (q := 10) zk8 lx_5 rfl tw_184 dX8_numberPosts_68 ?_
    refine v_icmp_ge (pc := 71) 166 dX8_numberPosts_71 (by decide) ?_ ?_
    · exact v_vret (pc := 166) dX8_numberPosts_166
    · refine v_aload_n (pc := 74) dX8_numberPosts_74 rfl ?_
      refine v_getR (pc := 75) (q := 9) zk8 lx_5 rfl rx_5_9 tw_183 dX8_numberPosts_75 ?_
      refine v_iload_n (pc := 78) dX8_numberPosts_78 rfl ?_
      refine v_iald (pc := 79) lx_12 dX8_numberPosts_79 (fun x1 => ?_)
      refine v_istore_n (pc := 80) dX8_numberPosts_80 (by decide) ?_
      refine v_aload_n (pc := 81) dX8_numberPosts_81 rfl ?_
      refine v_getR (pc := 82) (q := 3) zk8 lx_5 rfl rx_5_3 tw_165 dX8_numberPosts_82 ?_
      refine v_iload_n (pc := 85) dX8_numberPosts_85 rfl ?_
      refine v_iald (pc := 86) lx_6 dX8_numberPosts_86 (fun x2 => ?_)
      refine v_istore (pc := 87) dX8_numberPosts_87 (by decide) ?_
      refine v_aload_n (pc := 89) dX8_numberPosts_89 rfl ?_
      refine v_getR (pc := 90) (q := 6) zk8 lx_5 rfl rx_5_6 tw_176 dX8_numberPosts_90 ?_
      refine v_iload_n (pc := 93) dX8_numberPosts_93 rfl ?_
      refine v_iload (pc := 94) dX8_numberPosts_94 rfl ?_
      refine v_iconst (pc := 96) (-1) dX8_numberPosts_96 (by decide) ?_
      refine v_icmp_ne (pc := 97) 104 dX8_numberPosts_97 (by decide) ?_ ?_
      · refine v_aload_n (pc := 104) dX8_numberPosts_104 rfl ?_
        refine v_getR (pc := 105) (q := 7) zk8 lx_5 rfl rx_5_7 tw_178 dX8_numberPosts_105 ?_
        refine v_iload (pc := 108) dX8_numberPosts_108 rfl ?_
        refine v_iald (pc := 110) lx_10 dX8_numberPosts_110 (fun x3 => ?_)
        refine v_iconst (pc := 111) 1 dX8_numberPosts_111 (by decide) ?_
        refine v_iadd (pc := 112) dX8_numberPosts_112 ?_
        exact v_sub (wTree_numberPosts_113 l G (fTree_numberPosts_66 fuel) ih v1 v2 x1 x2 (x3 + 1) x1 M) rfl
      · refine v_iload_n (pc := 100) dX8_numberPosts_100 rfl ?_
        refine v_goto (pc := 101) 113 dX8_numberPosts_101 (by decide) ?_
        exact v_sub (wTree_numberPosts_113 l G (fTree_numberPosts_66 fuel) ih v1 v2 x1 x2 v1 x1 M) rfl
theorem wTree_numberPosts_15 (l : Launch) (G : zG) : ∀ (fuel : Nat) (v1 : Int32) (M : zM), zV eV l G zLX zRX 2 yX8_numberPosts cX8_numberPosts 5 none 15 [(0, .ref 5), (1, .int v1)] [] M (fTree_numberPosts_15 fuel v1 M) := by
  intro fuel
  induction fuel with
  | zero => intro v1 M; exact v_none
  | succ fuel ih =>
    intro v1 M
    rw [fTree_numberPosts_15]
    refine v_iload_n (pc := 15) dX8_numberPosts_15 rfl ?_
    refine v_if_lt (pc := 16) 62 dX8_numberPosts_16 (by decide) ?_ ?_
    · refine v_iconst (pc := 62) 0 dX8_numberPosts_62 (by decide) ?_
      refine v_istore_n (pc := 63) dX8_numberPosts_63 (by decide) ?_
      refine v_iconst (pc := 64) 0 dX8_numberPosts_64 (by decide) ?_
      refine v_istore_n (pc := 65) dX8_numberPosts_65 (by decide) ?_
      exact v_sub (wTree_numberPosts_66 l G FU 0 0 M) rfl
    · refine v_aload_n (pc := 19) dX8_numberPosts_19 rfl ?_
      refine v_getR (pc := 20) (q := 9) zk8 lx_5 rfl rx_5_9 tw_183 dX8_numberPosts_20 ?_
      refine v_iload_n (pc := 23) dX8_numberPosts_23 rfl ?_
      refine v_iald (pc := 24) lx_12 dX8_numberPosts_24 (fun x1 => ?_)
      refine v_istore_n (pc := 25) dX8_numberPosts_25 (by decide) ?_
      refine v_aload_n (pc := 26) dX8_numberPosts_26 rfl ?_
      refine v_getR (pc := 27) (q := 3) zk8 lx_5 rfl rx_5_3 tw_165 dX8_numberPosts_27 ?_
      refine v_iload_n (pc := 30) dX8_numberPosts_30 rfl ?_
      refine v_iald (pc := 31) lx_6 dX8_numberPosts_31 (fun x2 => ?_)
      refine v_iconst (pc := 32) (-1) dX8_numberPosts_32 (by decide) ?_
      refine v_icmp_eq (pc := 33) 56 dX8_numberPosts_33 (by decide) ?_ ?_
      · refine v_iinc (pc := 56) (-1) dX8_numberPosts_56 rfl (by decide) (by decide) ?_
        refine v_goto (pc := 59) 15 dX8_numberPosts_59 (by decide) ?_
        exact v_sub (ih (v1 + (-1)) M) rfl
      · refine v_aload_n (pc := 36) dX8_numberPosts_36 rfl ?_
        refine v_getR (pc := 37) (q := 12) zk8 lx_5 rfl rx_5_12 tw_186 dX8_numberPosts_37 ?_
        refine v_aload_n (pc := 40) dX8_numberPosts_40 rfl ?_
        refine v_getR (pc := 41) (q := 3) zk8 lx_5 rfl rx_5_3 tw_165 dX8_numberPosts_41 ?_
        refine v_iload_n (pc := 44) dX8_numberPosts_44 rfl ?_
        refine v_iald (pc := 45) lx_6 dX8_numberPosts_45 (fun x3 => ?_)
        refine v_dup2 (pc := 46) dX8_numberPosts_46 rfl rfl ?_
        refine v_iald (pc := 47) lx_13 dX8_numberPosts_47 (fun x4 => ?_)
        refine v_aload_n (pc := 48) dX8_numberPosts_48 rfl ?_
        refine v_getR (pc := 49) (q := 12) zk8 lx_5 rfl rx_5_12 tw_186 dX8_numberPosts_49 ?_
        refine v_iload_n (pc := 52) dX8_numberPosts_52 rfl ?_
        refine v_iald (pc := 53) lx_13 dX8_numberPosts_53 (fun x5 => ?_)
        refine v_iadd (pc := 54) dX8_numberPosts_54 ?_
        refine v_iast (pc := 55) lx_13 dX8_numberPosts_55 (fun M6 => ?_)
        refine v_iinc (pc := 56) (-1) dX8_numberPosts_56 rfl (by decide) (by decide) ?_
        refine v_goto (pc := 59) 15 dX8_numberPosts_59 (by decide) ?_
        exact v_sub (ih (v1 + (-1)) M6) rfl
theorem wTree_numberPosts (l : Launch) (G : zG)  (M : zM) : zV eV l G zLX zRX 2 yX8_numberPosts cX8_numberPosts 5 none 0 [(0, .ref 5)] [] M (fTree_numberPosts  M) := by
  rw [fTree_numberPosts]
  refine v_aload_n (pc := 0) dX8_numberPosts_0 rfl ?_
  refine v_getR (pc := 1) (q := 12) zk8 lx_5 rfl rx_5_12 tw_186 dX8_numberPosts_1 ?_
  refine v_iconst (pc := 4) 1 dX8_numberPosts_4 (by decide) ?_
  refine v_callS (pc := 5) (As := [.ref 13, .int 1]) (cJ7_fill l G 13 12 lx_13 1 M) zc_J7_fill_53178 tw_536 (by decide) (Nat.le_of_ble_eq_true rfl) dX8_numberPosts_5 (fun _ M1 => ?_)
  skip
  refine v_aload_n (pc := 8) dX8_numberPosts_8 rfl ?_
  refine v_getI (pc := 9) (q := 10) zk8 lx_5 rfl tw_184 dX8_numberPosts_9 ?_
  refine v_iconst (pc := 12) 1 dX8_numberPosts_12 (by decide) ?_
  refine v_isub (pc := 13) dX8_numberPosts_13 ?_
  refine v_istore_nL (pc := 14) dX8_numberPosts_14 (by decide) (fun u1_14 => ?_)
  exact v_sub (wTree_numberPosts_15 l G FU u1_14 M1) rfl
theorem cTree_numberPosts (l : Launch) (G : zG)  (M : zM) : zC eV l G zLX zRX 2 yX8_numberPosts cX8_numberPosts 5 none [.ref 5] M (fTree_numberPosts  M) := zC.of (by decide) (Nat.le_of_ble_eq_true rfl) (v_sub (wTree_numberPosts l G  M) rfl)
theorem dX8_nameLines_0 : decode cX8_nameLines 0 = .ok (.aload_n 0, 1) := by decide +kernel
theorem dX8_nameLines_1 : decode cX8_nameLines 1 = .ok (.getfield 34, 3) := by decide +kernel
theorem dX8_nameLines_4 : decode cX8_nameLines 4 = .ok (.iconst 0, 1) := by decide +kernel
theorem dX8_nameLines_5 : decode cX8_nameLines 5 = .ok (.invokestatic 94, 3) := by decide +kernel
theorem dX8_nameLines_8 : decode cX8_nameLines 8 = .ok (.iconst 0, 1) := by decide +kernel
theorem dX8_nameLines_9 : decode cX8_nameLines 9 = .ok (.istore_n 1, 1) := by decide +kernel
theorem dX8_nameLines_10 : decode cX8_nameLines 10 = .ok (.iload_n 1, 1) := by decide +kernel
theorem dX8_nameLines_11 : decode cX8_nameLines 11 = .ok (.aload_n 0, 1) := by decide +kernel
theorem dX8_nameLines_12 : decode cX8_nameLines 12 = .ok (.getfield 52, 3) := by decide +kernel
theorem dX8_nameLines_15 : decode cX8_nameLines 15 = .ok (.getfield 100, 3) := by decide +kernel
theorem dX8_nameLines_18 : decode cX8_nameLines 18 = .ok (.if_icmp .ge 89, 3) := by decide +kernel
theorem dX8_nameLines_21 : decode cX8_nameLines 21 = .ok (.aload_n 0, 1) := by decide +kernel
theorem dX8_nameLines_22 : decode cX8_nameLines 22 = .ok (.getfield 15, 3) := by decide +kernel
theorem dX8_nameLines_25 : decode cX8_nameLines 25 = .ok (.iload_n 1, 1) := by decide +kernel
theorem dX8_nameLines_26 : decode cX8_nameLines 26 = .ok (.ishr, 1) := by decide +kernel
theorem dX8_nameLines_27 : decode cX8_nameLines 27 = .ok (.iconst 1, 1) := by decide +kernel
theorem dX8_nameLines_28 : decode cX8_nameLines 28 = .ok (.iand, 1) := by decide +kernel
theorem dX8_nameLines_29 : decode cX8_nameLines 29 = .ok (.ifCond .ne 72, 3) := by decide +kernel
theorem dX8_nameLines_32 : decode cX8_nameLines 32 = .ok (.aload_n 0, 1) := by decide +kernel
theorem dX8_nameLines_33 : decode cX8_nameLines 33 = .ok (.getfield 25, 3) := by decide +kernel
theorem dX8_nameLines_36 : decode cX8_nameLines 36 = .ok (.aload_n 0, 1) := by decide +kernel
theorem dX8_nameLines_37 : decode cX8_nameLines 37 = .ok (.getfield 52, 3) := by decide +kernel
theorem dX8_nameLines_40 : decode cX8_nameLines 40 = .ok (.getfield 103, 3) := by decide +kernel
theorem dX8_nameLines_43 : decode cX8_nameLines 43 = .ok (.iload_n 1, 1) := by decide +kernel
theorem dX8_nameLines_44 : decode cX8_nameLines 44 = .ok (.iaload, 1) := by decide +kernel
theorem dX8_nameLines_45 : decode cX8_nameLines 45 = .ok (.iaload, 1) := by decide +kernel
theorem dX8_nameLines_46 : decode cX8_nameLines 46 = .ok (.aload_n 0, 1) := by decide +kernel
theorem dX8_nameLines_47 : decode cX8_nameLines 47 = .ok (.getfield 25, 3) := by decide +kernel
theorem dX8_nameLines_50 : decode cX8_nameLines 50 = .ok (.aload_n 0, 1) := by decide +kernel
theorem dX8_nameLines_51 : decode cX8_nameLines 51 = .ok (.getfield 52, 3) := by decide +kernel
theorem dX8_nameLines_54 : decode cX8_nameLines 54 = .ok (.getfield 106, 3) := by decide +kernel
theorem dX8_nameLines_57 : decode cX8_nameLines 57 = .ok (.iload_n 1, 1) := by decide +kernel
theorem dX8_nameLines_58 : decode cX8_nameLines 58 = .ok (.iaload, 1) := by decide +kernel
theorem dX8_nameLines_59 : decode cX8_nameLines 59 = .ok (.iaload, 1) := by decide +kernel
theorem dX8_nameLines_60 : decode cX8_nameLines 60 = .ok (.ixor, 1) := by decide +kernel
theorem dX8_nameLines_61 : decode cX8_nameLines 61 = .ok (.iconst 1, 1) := by decide +kernel
theorem dX8_nameLines_62 : decode cX8_nameLines 62 = .ok (.iload_n 1, 1) := by decide +kernel
theorem dX8_nameLines_63 : decode cX8_nameLines 63 = .ok (.ishl, 1) := by decide +kernel
theorem dX8_nameLines_64 : decode cX8_nameLines 64 = .ok (.ior, 1) := by decide +kernel
theorem dX8_nameLines_65 : decode cX8_nameLines 65 = .ok (.istore_n 2, 1) := by decide +kernel
theorem dX8_nameLines_66 : decode cX8_nameLines 66 = .ok (.iconst 0, 1) := by decide +kernel
theorem dX8_nameLines_67 : decode cX8_nameLines 67 = .ok (.istore_n 3, 1) := by decide +kernel
theorem dX8_nameLines_68 : decode cX8_nameLines 68 = .ok (.iload_n 3, 1) := by decide +kernel
theorem dX8_nameLines_69 : decode cX8_nameLines 69 = .ok (.aload_n 0, 1) := by decide +kernel
theorem dX8_nameLines_70 : decode cX8_nameLines 70 = .ok (.getfield 52, 3) := by decide +kernel
theorem dX8_nameLines_73 : decode cX8_nameLines 73 = .ok (.getfield 100, 3) := by decide +kernel
theorem dX8_nameLines_76 : decode cX8_nameLines 76 = .ok (.if_icmp .ge 25, 3) := by decide +kernel
theorem dX8_nameLines_79 : decode cX8_nameLines 79 = .ok (.aload_n 0, 1) := by decide +kernel
theorem dX8_nameLines_80 : decode cX8_nameLines 80 = .ok (.getfield 34, 3) := by decide +kernel
theorem dX8_nameLines_83 : decode cX8_nameLines 83 = .ok (.iload_n 3, 1) := by decide +kernel
theorem dX8_nameLines_84 : decode cX8_nameLines 84 = .ok (.dup2, 1) := by decide +kernel
theorem dX8_nameLines_85 : decode cX8_nameLines 85 = .ok (.iaload, 1) := by decide +kernel
theorem dX8_nameLines_86 : decode cX8_nameLines 86 = .ok (.iload_n 2, 1) := by decide +kernel
theorem dX8_nameLines_87 : decode cX8_nameLines 87 = .ok (.iload_n 3, 1) := by decide +kernel
theorem dX8_nameLines_88 : decode cX8_nameLines 88 = .ok (.ishr, 1) := by decide +kernel
theorem dX8_nameLines_89 : decode cX8_nameLines 89 = .ok (.iconst 1, 1) := by decide +kernel
theorem dX8_nameLines_90 : decode cX8_nameLines 90 = .ok (.iand, 1) := by decide +kernel
theorem dX8_nameLines_91 : decode cX8_nameLines 91 = .ok (.iload_n 1, 1) := by decide +kernel
theorem dX8_nameLines_92 : decode cX8_nameLines 92 = .ok (.ishl, 1) := by decide +kernel
theorem dX8_nameLines_93 : decode cX8_nameLines 93 = .ok (.ior, 1) := by decide +kernel
theorem dX8_nameLines_94 : decode cX8_nameLines 94 = .ok (.iastore, 1) := by decide +kernel
theorem dX8_nameLines_95 : decode cX8_nameLines 95 = .ok (.iinc 3 1, 3) := by decide +kernel
theorem dX8_nameLines_98 : decode cX8_nameLines 98 = .ok (.goto (-30), 3) := by decide +kernel
theorem dX8_nameLines_101 : decode cX8_nameLines 101 = .ok (.iinc 1 1, 3) := by decide +kernel
theorem dX8_nameLines_104 : decode cX8_nameLines 104 = .ok (.goto (-94), 3) := by decide +kernel
theorem dX8_nameLines_107 : decode cX8_nameLines 107 = .ok (.return_, 1) := by decide +kernel
theorem wTree_nameLines_68 (l : Launch) (G : zG) (k10 : Int32 → zM → Option (Unit × zM)) (hk10 : ∀ (v1 : Int32) (M : zM), zV eV l G zLX zRX 2 yX8_nameLines cX8_nameLines 4 none 10 [(0, .ref 5), (1, .int v1)] [] M (k10 v1 M)) : ∀ (fuel : Nat) (v1 : Int32) (v2 : Int32) (v3 : Int32) (M : zM), zV eV l G zLX zRX 2 yX8_nameLines cX8_nameLines 4 none 68 [(0, .ref 5), (1, .int v1), (2, .int v2), (3, .int v3)] [] M (fTree_nameLines_68 k10 fuel v1 v2 v3 M) := by
  intro fuel
  induction fuel with
  | zero => intro v1 v2 v3 M; exact v_none
  | succ fuel ih =>
    intro v1 v2 v3 M
    rw [fTree_nameLines_68]
    refine v_iload_n (pc := 68) dX8_nameLines_68 rfl ?_
    refine v_aload_n (pc := 69) dX8_nameLines_69 rfl ?_
    refine v_getR (pc := 70) (q := 0) zk8 lx_5 rfl rx_5_0 tw_160 dX8_nameLines_70 ?_
    refine v_getI (pc := 73) (q := 1) zk3 lx_1 rfl tw_124 dX8_nameLines_73 ?_
    refine v_icmp_ge (pc := 76) 101 dX8_nameLines_76 (by decide) ?_ ?_
    · refine v_iinc (pc := 101) 1 dX8_nameLines_101 rfl (by decide) (by decide) ?_
      refine v_goto (pc := 104) 10 dX8_nameLines_104 (by decide) ?_
      exact v_sub (hk10 (v1 + 1) M) rfl
    · refine v_aload_n (pc := 79) dX8_nameLines_79 rfl ?_
      refine v_getR (pc := 80) (q := 8) zk8 lx_5 rfl rx_5_8 tw_180 dX8_nameLines_80 ?_
      refine v_iload_n (pc := 83) dX8_nameLines_83 rfl ?_
      refine v_dup2 (pc := 84) dX8_nameLines_84 rfl rfl ?_
      refine v_iald (pc := 85) lx_11 dX8_nameLines_85 (fun x1 => ?_)
      refine v_iload_n (pc := 86) dX8_nameLines_86 rfl ?_
      refine v_iload_n (pc := 87) dX8_nameLines_87 rfl ?_
      refine v_ishr (pc := 88) dX8_nameLines_88 ?_
      refine v_iconst (pc := 89) 1 dX8_nameLines_89 (by decide) ?_
      refine v_iand (pc := 90) dX8_nameLines_90 ?_
      refine v_iload_n (pc := 91) dX8_nameLines_91 rfl ?_
      refine v_ishl (pc := 92) dX8_nameLines_92 ?_
      refine v_ior (pc := 93) dX8_nameLines_93 ?_
      refine v_iast (pc := 94) lx_11 dX8_nameLines_94 (fun M2 => ?_)
      refine v_iinc (pc := 95) 1 dX8_nameLines_95 rfl (by decide) (by decide) ?_
      refine v_goto (pc := 98) 68 dX8_nameLines_98 (by decide) ?_
      exact v_sub (ih v1 v2 (v3 + 1) M2) rfl
theorem wTree_nameLines_10 (l : Launch) (G : zG) : ∀ (fuel : Nat) (v1 : Int32) (M : zM), zV eV l G zLX zRX 2 yX8_nameLines cX8_nameLines 4 none 10 [(0, .ref 5), (1, .int v1)] [] M (fTree_nameLines_10 fuel v1 M) := by
  intro fuel
  induction fuel with
  | zero => intro v1 M; exact v_none
  | succ fuel ih =>
    intro v1 M
    rw [fTree_nameLines_10]
    refine v_iload_n (pc := 10) dX8_nameLines_10 rfl ?_
    refine v_aload_n (pc := 11) dX8_nameLines_11 rfl ?_
    refine v_getR (pc := 12) (q := 0) zk8 lx_5 rfl rx_5_0 tw_160 dX8_nameLines_12 ?_
    refine v_getI (pc := 15) (q := 1) zk3 lx_1 rfl tw_124 dX8_nameLines_15 ?_
    refine v_icmp_ge (pc := 18) 107 dX8_nameLines_18 (by decide) ?_ ?_
    · exact v_vret (pc := 107) dX8_nameLines_107
    · refine v_aload_n (pc := 21) dX8_nameLines_21 rfl ?_
      refine v_getI (pc := 22) (q := 2) zk8 lx_5 rfl tw_163 dX8_nameLines_22 ?_
      refine v_iload_n (pc := 25) dX8_nameLines_25 rfl ?_
      refine v_ishr (pc := 26) dX8_nameLines_26 ?_
      refine v_iconst (pc := 27) 1 dX8_nameLines_27 (by decide) ?_
      refine v_iand (pc := 28) dX8_nameLines_28 ?_
      refine v_if_ne (pc := 29) 101 dX8_nameLines_29 (by decide) ?_ ?_
      · refine v_iinc (pc := 101) 1 dX8_nameLines_101 rfl (by decide) (by decide) ?_
        refine v_goto (pc := 104) 10 dX8_nameLines_104 (by decide) ?_
        exact v_sub (ih (v1 + 1) M) rfl
      · refine v_aload_n (pc := 32) dX8_nameLines_32 rfl ?_
        refine v_getR (pc := 33) (q := 5) zk8 lx_5 rfl rx_5_5 tw_172 dX8_nameLines_33 ?_
        refine v_aload_n (pc := 36) dX8_nameLines_36 rfl ?_
        refine v_getR (pc := 37) (q := 0) zk8 lx_5 rfl rx_5_0 tw_160 dX8_nameLines_37 ?_
        refine v_getR (pc := 40) (q := 3) zk3 lx_1 rfl rx_1_3 tw_132 dX8_nameLines_40 ?_
        refine v_iload_n (pc := 43) dX8_nameLines_43 rfl ?_
        refine v_iald (pc := 44) lx_2 dX8_nameLines_44 (fun x1 => ?_)
        refine v_iald (pc := 45) lx_8 dX8_nameLines_45 (fun x2 => ?_)
        refine v_aload_n (pc := 46) dX8_nameLines_46 rfl ?_
        refine v_getR (pc := 47) (q := 5) zk8 lx_5 rfl rx_5_5 tw_172 dX8_nameLines_47 ?_
        refine v_aload_n (pc := 50) dX8_nameLines_50 rfl ?_
        refine v_getR (pc := 51) (q := 0) zk8 lx_5 rfl rx_5_0 tw_160 dX8_nameLines_51 ?_
        refine v_getR (pc := 54) (q := 4) zk3 lx_1 rfl rx_1_4 tw_136 dX8_nameLines_54 ?_
        refine v_iload_n (pc := 57) dX8_nameLines_57 rfl ?_
        refine v_iald (pc := 58) lx_3 dX8_nameLines_58 (fun x3 => ?_)
        refine v_iald (pc := 59) lx_8 dX8_nameLines_59 (fun x4 => ?_)
        refine v_ixor (pc := 60) dX8_nameLines_60 ?_
        refine v_iconst (pc := 61) 1 dX8_nameLines_61 (by decide) ?_
        refine v_iload_n (pc := 62) dX8_nameLines_62 rfl ?_
        refine v_ishl (pc := 63) dX8_nameLines_63 ?_
        refine v_ior (pc := 64) dX8_nameLines_64 ?_
        refine v_istore_nL (pc := 65) dX8_nameLines_65 (by decide) (fun u2_65 => ?_)
        refine v_iconst (pc := 66) 0 dX8_nameLines_66 (by decide) ?_
        refine v_istore_n (pc := 67) dX8_nameLines_67 (by decide) ?_
        exact v_sub (wTree_nameLines_68 l G (fTree_nameLines_10 fuel) ih FU v1 u2_65 0 M) rfl
theorem wTree_nameLines (l : Launch) (G : zG)  (M : zM) : zV eV l G zLX zRX 2 yX8_nameLines cX8_nameLines 4 none 0 [(0, .ref 5)] [] M (fTree_nameLines  M) := by
  rw [fTree_nameLines]
  refine v_aload_n (pc := 0) dX8_nameLines_0 rfl ?_
  refine v_getR (pc := 1) (q := 8) zk8 lx_5 rfl rx_5_8 tw_180 dX8_nameLines_1 ?_
  refine v_iconst (pc := 4) 0 dX8_nameLines_4 (by decide) ?_
  refine v_callS (pc := 5) (As := [.ref 11, .int 0]) (cJ7_fill l G 11 30 lx_11 0 M) zc_J7_fill_53178 tw_536 (by decide) (Nat.le_of_ble_eq_true rfl) dX8_nameLines_5 (fun _ M1 => ?_)
  skip
  refine v_iconst (pc := 8) 0 dX8_nameLines_8 (by decide) ?_
  refine v_istore_n (pc := 9) dX8_nameLines_9 (by decide) ?_
  exact v_sub (wTree_nameLines_10 l G FU 0 M1) rfl
theorem cTree_nameLines (l : Launch) (G : zG)  (M : zM) : zC eV l G zLX zRX 2 yX8_nameLines cX8_nameLines 4 none [.ref 5] M (fTree_nameLines  M) := zC.of (by decide) (Nat.le_of_ble_eq_true rfl) (v_sub (wTree_nameLines l G  M) rfl)
theorem dX8_fresh_0 : decode cX8_fresh 0 = .ok (.aload_n 0, 1) := by decide +kernel
theorem dX8_fresh_1 : decode cX8_fresh 1 = .ok (.getfield 49, 3) := by decide +kernel
theorem dX8_fresh_4 : decode cX8_fresh 4 = .ok (.aload_n 0, 1) := by decide +kernel
theorem dX8_fresh_5 : decode cX8_fresh 5 = .ok (.getfield 52, 3) := by decide +kernel
theorem dX8_fresh_8 : decode cX8_fresh 8 = .ok (.getfield 56, 3) := by decide +kernel
theorem dX8_fresh_11 : decode cX8_fresh 11 = .ok (.if_icmp .eq 61, 3) := by decide +kernel
theorem dX8_fresh_14 : decode cX8_fresh 14 = .ok (.aload_n 0, 1) := by decide +kernel
theorem dX8_fresh_15 : decode cX8_fresh 15 = .ok (.aload_n 0, 1) := by decide +kernel
theorem dX8_fresh_16 : decode cX8_fresh 16 = .ok (.getfield 52, 3) := by decide +kernel
theorem dX8_fresh_19 : decode cX8_fresh 19 = .ok (.getfield 56, 3) := by decide +kernel
theorem dX8_fresh_22 : decode cX8_fresh 22 = .ok (.putfield 49, 3) := by decide +kernel
theorem dX8_fresh_25 : decode cX8_fresh 25 = .ok (.aload_n 0, 1) := by decide +kernel
theorem dX8_fresh_26 : decode cX8_fresh 26 = .ok (.invokevirtual 61, 3) := by decide +kernel
theorem dX8_fresh_29 : decode cX8_fresh 29 = .ok (.iconst 0, 1) := by decide +kernel
theorem dX8_fresh_30 : decode cX8_fresh 30 = .ok (.istore_n 1, 1) := by decide +kernel
theorem dX8_fresh_31 : decode cX8_fresh 31 = .ok (.iload_n 1, 1) := by decide +kernel
theorem dX8_fresh_32 : decode cX8_fresh 32 = .ok (.aload_n 0, 1) := by decide +kernel
theorem dX8_fresh_33 : decode cX8_fresh 33 = .ok (.getfield 52, 3) := by decide +kernel
theorem dX8_fresh_36 : decode cX8_fresh 36 = .ok (.getfield 64, 3) := by decide +kernel
theorem dX8_fresh_39 : decode cX8_fresh 39 = .ok (.if_icmp .ge 25, 3) := by decide +kernel
theorem dX8_fresh_42 : decode cX8_fresh 42 = .ok (.aload_n 0, 1) := by decide +kernel
theorem dX8_fresh_43 : decode cX8_fresh 43 = .ok (.getfield 43, 3) := by decide +kernel
theorem dX8_fresh_46 : decode cX8_fresh 46 = .ok (.iload_n 1, 1) := by decide +kernel
theorem dX8_fresh_47 : decode cX8_fresh 47 = .ok (.ishr, 1) := by decide +kernel
theorem dX8_fresh_48 : decode cX8_fresh 48 = .ok (.iconst 1, 1) := by decide +kernel
theorem dX8_fresh_49 : decode cX8_fresh 49 = .ok (.iand, 1) := by decide +kernel
theorem dX8_fresh_50 : decode cX8_fresh 50 = .ok (.ifCond .ne 8, 3) := by decide +kernel
theorem dX8_fresh_53 : decode cX8_fresh 53 = .ok (.aload_n 0, 1) := by decide +kernel
theorem dX8_fresh_54 : decode cX8_fresh 54 = .ok (.iload_n 1, 1) := by decide +kernel
theorem dX8_fresh_55 : decode cX8_fresh 55 = .ok (.invokevirtual 67, 3) := by decide +kernel
theorem dX8_fresh_58 : decode cX8_fresh 58 = .ok (.iinc 1 1, 3) := by decide +kernel
theorem dX8_fresh_61 : decode cX8_fresh 61 = .ok (.goto (-30), 3) := by decide +kernel
theorem dX8_fresh_64 : decode cX8_fresh 64 = .ok (.aload_n 0, 1) := by decide +kernel
theorem dX8_fresh_65 : decode cX8_fresh 65 = .ok (.invokevirtual 71, 3) := by decide +kernel
theorem dX8_fresh_68 : decode cX8_fresh 68 = .ok (.aload_n 0, 1) := by decide +kernel
theorem dX8_fresh_69 : decode cX8_fresh 69 = .ok (.invokevirtual 74, 3) := by decide +kernel
theorem dX8_fresh_72 : decode cX8_fresh 72 = .ok (.aload_n 0, 1) := by decide +kernel
theorem dX8_fresh_73 : decode cX8_fresh 73 = .ok (.areturn, 1) := by decide +kernel
theorem wTree_fresh_31 (l : Launch) (G : zG) : ∀ (fuel : Nat) (v1 : Int32) (M : zM), zV eR l G zLX zRX 3 yX8_fresh cX8_fresh 2 (some (.object "NameNets$Tree")) 31 [(0, .ref 5), (1, .int v1)] [] M (fTree_fresh_31 fuel v1 M) := by
  intro fuel
  induction fuel with
  | zero => intro v1 M; exact v_none
  | succ fuel ih =>
    intro v1 M
    rw [fTree_fresh_31]
    refine v_iload_n (pc := 31) dX8_fresh_31 rfl ?_
    refine v_aload_n (pc := 32) dX8_fresh_32 rfl ?_
    refine v_getR (pc := 33) (q := 0) zk8 lx_5 rfl rx_5_0 tw_160 dX8_fresh_33 ?_
    refine v_getI (pc := 36) (q := 0) zk3 lx_1 rfl tw_115 dX8_fresh_36 ?_
    refine v_icmp_ge (pc := 39) 64 dX8_fresh_39 (by decide) ?_ ?_
    · refine v_aload_n (pc := 64) dX8_fresh_64 rfl ?_
      refine v_callV (pc := 65) (As := []) (cTree_numberPosts l G  M) zc_X8_numberPosts zk8 rfl lx_5 tw_532 (by decide) (Nat.le_of_ble_eq_true rfl) dX8_fresh_65 (fun _ M1 => ?_)
      skip
      refine v_aload_n (pc := 68) dX8_fresh_68 rfl ?_
      refine v_callV (pc := 69) (As := []) (cTree_nameLines l G  M1) zc_X8_nameLines zk8 rfl lx_5 tw_537 (by decide) (Nat.le_of_ble_eq_true rfl) dX8_fresh_69 (fun _ M2 => ?_)
      skip
      refine v_aload_n (pc := 72) dX8_fresh_72 rfl ?_
      exact v_aret (pc := 73) dX8_fresh_73
    · refine v_aload_n (pc := 42) dX8_fresh_42 rfl ?_
      refine v_getI (pc := 43) (q := 11) zk8 lx_5 rfl tw_185 dX8_fresh_43 ?_
      refine v_iload_n (pc := 46) dX8_fresh_46 rfl ?_
      refine v_ishr (pc := 47) dX8_fresh_47 ?_
      refine v_iconst (pc := 48) 1 dX8_fresh_48 (by decide) ?_
      refine v_iand (pc := 49) dX8_fresh_49 ?_
      refine v_if_ne (pc := 50) 58 dX8_fresh_50 (by decide) ?_ ?_
      · refine v_iinc (pc := 58) 1 dX8_fresh_58 rfl (by decide) (by decide) ?_
        refine v_goto (pc := 61) 31 dX8_fresh_61 (by decide) ?_
        exact v_sub (ih (v1 + 1) M) rfl
      · refine v_aload_n (pc := 53) dX8_fresh_53 rfl ?_
        refine v_iload_n (pc := 54) dX8_fresh_54 rfl ?_
        refine v_callV (pc := 55) (As := [.int v1]) (cTree_growFrom l G v1 M) zc_X8_growFrom zk8 rfl lx_5 tw_519 (by decide) (Nat.le_of_ble_eq_true rfl) dX8_fresh_55 (fun _ M3 => ?_)
        skip
        refine v_iinc (pc := 58) 1 dX8_fresh_58 rfl (by decide) (by decide) ?_
        refine v_goto (pc := 61) 31 dX8_fresh_61 (by decide) ?_
        exact v_sub (ih (v1 + 1) M3) rfl
theorem wTree_fresh (l : Launch) (G : zG)  (M : zM) : zV eR l G zLX zRX 3 yX8_fresh cX8_fresh 2 (some (.object "NameNets$Tree")) 0 [(0, .ref 5)] [] M (fTree_fresh  M) := by
  rw [fTree_fresh]
  refine v_aload_n (pc := 0) dX8_fresh_0 rfl ?_
  refine v_getI (pc := 1) (q := 13) zk8 lx_5 rfl tw_187 dX8_fresh_1 ?_
  refine v_aload_n (pc := 4) dX8_fresh_4 rfl ?_
  refine v_getR (pc := 5) (q := 0) zk8 lx_5 rfl rx_5_0 tw_160 dX8_fresh_5 ?_
  refine v_getI (pc := 8) (q := 2) zk3 lx_1 rfl tw_126 dX8_fresh_8 ?_
  refine v_icmp_eq (pc := 11) 72 dX8_fresh_11 (by decide) ?_ ?_
  · refine v_aload_n (pc := 72) dX8_fresh_72 rfl ?_
    exact v_aret (pc := 73) dX8_fresh_73
  · refine v_aload_n (pc := 14) dX8_fresh_14 rfl ?_
    refine v_aload_n (pc := 15) dX8_fresh_15 rfl ?_
    refine v_getR (pc := 16) (q := 0) zk8 lx_5 rfl rx_5_0 tw_160 dX8_fresh_16 ?_
    refine v_getI (pc := 19) (q := 2) zk3 lx_1 rfl tw_126 dX8_fresh_19 ?_
    refine v_putI (pc := 22) (q := 13) zk8 lx_5 rfl tw_187 rfl rfl rfl dX8_fresh_22 (fun M1 => ?_)
    refine v_aload_n (pc := 25) dX8_fresh_25 rfl ?_
    refine v_callV (pc := 26) (As := []) (cTree_clear l G  M1) zc_X8_clear zk8 rfl lx_5 tw_515 (by decide) (Nat.le_of_ble_eq_true rfl) dX8_fresh_26 (fun _ M2 => ?_)
    skip
    refine v_iconst (pc := 29) 0 dX8_fresh_29 (by decide) ?_
    refine v_istore_n (pc := 30) dX8_fresh_30 (by decide) ?_
    exact v_sub (wTree_fresh_31 l G FU 0 M2) rfl
theorem cTree_fresh (l : Launch) (G : zG)  (M : zM) : zC eR l G zLX zRX 3 yX8_fresh cX8_fresh 2 (some (.object "NameNets$Tree")) [.ref 5] M (fTree_fresh  M) := zC.of (by decide) (Nat.le_of_ble_eq_true rfl) (v_sub (wTree_fresh l G  M) rfl)
theorem dX8_isAbove_0 : decode cX8_isAbove 0 = .ok (.aload_n 0, 1) := by decide +kernel
theorem dX8_isAbove_1 : decode cX8_isAbove 1 = .ok (.getfield 28, 3) := by decide +kernel
theorem dX8_isAbove_4 : decode cX8_isAbove 4 = .ok (.iload_n 2, 1) := by decide +kernel
theorem dX8_isAbove_5 : decode cX8_isAbove 5 = .ok (.iaload, 1) := by decide +kernel
theorem dX8_isAbove_6 : decode cX8_isAbove 6 = .ok (.aload_n 0, 1) := by decide +kernel
theorem dX8_isAbove_7 : decode cX8_isAbove 7 = .ok (.getfield 28, 3) := by decide +kernel
theorem dX8_isAbove_10 : decode cX8_isAbove 10 = .ok (.iload_n 1, 1) := by decide +kernel
theorem dX8_isAbove_11 : decode cX8_isAbove 11 = .ok (.iaload, 1) := by decide +kernel
theorem dX8_isAbove_12 : decode cX8_isAbove 12 = .ok (.if_icmp .lt 22, 3) := by decide +kernel
theorem dX8_isAbove_15 : decode cX8_isAbove 15 = .ok (.aload_n 0, 1) := by decide +kernel
theorem dX8_isAbove_16 : decode cX8_isAbove 16 = .ok (.getfield 28, 3) := by decide +kernel
theorem dX8_isAbove_19 : decode cX8_isAbove 19 = .ok (.iload_n 2, 1) := by decide +kernel
theorem dX8_isAbove_20 : decode cX8_isAbove 20 = .ok (.iaload, 1) := by decide +kernel
theorem dX8_isAbove_21 : decode cX8_isAbove 21 = .ok (.aload_n 0, 1) := by decide +kernel
theorem dX8_isAbove_22 : decode cX8_isAbove 22 = .ok (.getfield 31, 3) := by decide +kernel
theorem dX8_isAbove_25 : decode cX8_isAbove 25 = .ok (.iload_n 1, 1) := by decide +kernel
theorem dX8_isAbove_26 : decode cX8_isAbove 26 = .ok (.iaload, 1) := by decide +kernel
theorem dX8_isAbove_27 : decode cX8_isAbove 27 = .ok (.if_icmp .gt 7, 3) := by decide +kernel
theorem dX8_isAbove_30 : decode cX8_isAbove 30 = .ok (.iconst 1, 1) := by decide +kernel
theorem dX8_isAbove_31 : decode cX8_isAbove 31 = .ok (.goto 4, 3) := by decide +kernel
theorem dX8_isAbove_34 : decode cX8_isAbove 34 = .ok (.iconst 0, 1) := by decide +kernel
theorem dX8_isAbove_35 : decode cX8_isAbove 35 = .ok (.ireturn, 1) := by decide +kernel
theorem wTree_isAbove (l : Launch) (G : zG) (v1 : Int32) (v2 : Int32) (M : zM) : zV eI l G zLX zRX 1 yX8_isAbove cX8_isAbove 3 (some .boolean) 0 [(0, .ref 5), (1, .int v1), (2, .int v2)] [] M (fTree_isAbove v1 v2 M) := by
  rw [fTree_isAbove]
  refine v_aload_n (pc := 0) dX8_isAbove_0 rfl ?_
  refine v_getR (pc := 1) (q := 6) zk8 lx_5 rfl rx_5_6 tw_176 dX8_isAbove_1 ?_
  refine v_iload_n (pc := 4) dX8_isAbove_4 rfl ?_
  refine v_iald (pc := 5) lx_9 dX8_isAbove_5 (fun x1 => ?_)
  refine v_aload_n (pc := 6) dX8_isAbove_6 rfl ?_
  refine v_getR (pc := 7) (q := 6) zk8 lx_5 rfl rx_5_6 tw_176 dX8_isAbove_7 ?_
  refine v_iload_n (pc := 10) dX8_isAbove_10 rfl ?_
  refine v_iald (pc := 11) lx_9 dX8_isAbove_11 (fun x2 => ?_)
  refine v_icmp_lt (pc := 12) 34 dX8_isAbove_12 (by decide) ?_ ?_
  · refine v_iconst (pc := 34) 0 dX8_isAbove_34 (by decide) ?_
    exact v_zret (pc := 35) dX8_isAbove_35
  · refine v_aload_n (pc := 15) dX8_isAbove_15 rfl ?_
    refine v_getR (pc := 16) (q := 6) zk8 lx_5 rfl rx_5_6 tw_176 dX8_isAbove_16 ?_
    refine v_iload_n (pc := 19) dX8_isAbove_19 rfl ?_
    refine v_iald (pc := 20) lx_9 dX8_isAbove_20 (fun x3 => ?_)
    refine v_aload_n (pc := 21) dX8_isAbove_21 rfl ?_
    refine v_getR (pc := 22) (q := 7) zk8 lx_5 rfl rx_5_7 tw_178 dX8_isAbove_22 ?_
    refine v_iload_n (pc := 25) dX8_isAbove_25 rfl ?_
    refine v_iald (pc := 26) lx_10 dX8_isAbove_26 (fun x4 => ?_)
    refine v_icmp_gt (pc := 27) 34 dX8_isAbove_27 (by decide) ?_ ?_
    · refine v_iconst (pc := 34) 0 dX8_isAbove_34 (by decide) ?_
      exact v_zret (pc := 35) dX8_isAbove_35
    · refine v_iconst (pc := 30) 1 dX8_isAbove_30 (by decide) ?_
      refine v_goto (pc := 31) 35 dX8_isAbove_31 (by decide) ?_
      exact v_zret (pc := 35) dX8_isAbove_35
theorem cTree_isAbove (l : Launch) (G : zG) (v1 : Int32) (v2 : Int32) (M : zM) : zC eI l G zLX zRX 1 yX8_isAbove cX8_isAbove 3 (some .boolean) [.ref 5, .int v1, .int v2] M (fTree_isAbove v1 v2 M) := zC.of (by decide) (Nat.le_of_ble_eq_true rfl) (v_sub (wTree_isAbove l G v1 v2 M) rfl)
theorem dX8_depth_0 : decode cX8_depth 0 = .ok (.aload_n 0, 1) := by decide +kernel
theorem dX8_depth_1 : decode cX8_depth 1 = .ok (.getfield 25, 3) := by decide +kernel
theorem dX8_depth_4 : decode cX8_depth 4 = .ok (.iload_n 1, 1) := by decide +kernel
theorem dX8_depth_5 : decode cX8_depth 5 = .ok (.iaload, 1) := by decide +kernel
theorem dX8_depth_6 : decode cX8_depth 6 = .ok (.invokestatic 77, 3) := by decide +kernel
theorem dX8_depth_9 : decode cX8_depth 9 = .ok (.ireturn, 1) := by decide +kernel
theorem wTree_depth (l : Launch) (G : zG) (v1 : Int32) (M : zM) : zV eI l G zLX zRX 2 yX8_depth cX8_depth 2 (some .int) 0 [(0, .ref 5), (1, .int v1)] [] M (fTree_depth v1 M) := by
  rw [fTree_depth]
  refine v_aload_n (pc := 0) dX8_depth_0 rfl ?_
  refine v_getR (pc := 1) (q := 5) zk8 lx_5 rfl rx_5_5 tw_172 dX8_depth_1 ?_
  refine v_iload_n (pc := 4) dX8_depth_4 rfl ?_
  refine v_iald (pc := 5) lx_8 dX8_depth_5 (fun x1 => ?_)
  refine v_callS (pc := 6) (As := [.int x1]) (cJ6_bitCount l G x1 M) zc_J6_bitCount_0f7a4 tw_572 (by decide) (Nat.le_of_ble_eq_true rfl) dX8_depth_6 (fun r3 M2 => ?_)
  exact v_iret (pc := 9) dX8_depth_9
theorem cTree_depth (l : Launch) (G : zG) (v1 : Int32) (M : zM) : zC eI l G zLX zRX 2 yX8_depth cX8_depth 2 (some .int) [.ref 5, .int v1] M (fTree_depth v1 M) := zC.of (by decide) (Nat.le_of_ble_eq_true rfl) (v_sub (wTree_depth l G v1 M) rfl)
