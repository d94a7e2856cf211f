theorem dX9_init_0 : decode cX9_init 0 = .ok (.aload_n 0, 1) := by decide +kernel
theorem dX9_init_1 : decode cX9_init 1 = .ok (.invokespecial 1, 3) := by decide +kernel
theorem dX9_init_4 : decode cX9_init 4 = .ok (.aload_n 0, 1) := by decide +kernel
theorem dX9_init_5 : decode cX9_init 5 = .ok (.new 7, 3) := by decide +kernel
theorem dX9_init_8 : decode cX9_init 8 = .ok (.dup, 1) := by decide +kernel
theorem dX9_init_9 : decode cX9_init 9 = .ok (.invokespecial 9, 3) := by decide +kernel
theorem dX9_init_12 : decode cX9_init 12 = .ok (.putfield 10, 3) := by decide +kernel
theorem dX9_init_15 : decode cX9_init 15 = .ok (.aload_n 0, 1) := by decide +kernel
theorem dX9_init_16 : decode cX9_init 16 = .ok (.new 16, 3) := by decide +kernel
theorem dX9_init_19 : decode cX9_init 19 = .ok (.dup, 1) := by decide +kernel
theorem dX9_init_20 : decode cX9_init 20 = .ok (.aload_n 0, 1) := by decide +kernel
theorem dX9_init_21 : decode cX9_init 21 = .ok (.getfield 10, 3) := by decide +kernel
theorem dX9_init_24 : decode cX9_init 24 = .ok (.invokespecial 18, 3) := by decide +kernel
theorem dX9_init_27 : decode cX9_init 27 = .ok (.putfield 21, 3) := by decide +kernel
theorem dX9_init_30 : decode cX9_init 30 = .ok (.aload_n 0, 1) := by decide +kernel
theorem dX9_init_31 : decode cX9_init 31 = .ok (.new 25, 3) := by decide +kernel
theorem dX9_init_34 : decode cX9_init 34 = .ok (.dup, 1) := by decide +kernel
theorem dX9_init_35 : decode cX9_init 35 = .ok (.aload_n 0, 1) := by decide +kernel
theorem dX9_init_36 : decode cX9_init 36 = .ok (.getfield 10, 3) := by decide +kernel
theorem dX9_init_39 : decode cX9_init 39 = .ok (.aload_n 0, 1) := by decide +kernel
theorem dX9_init_40 : decode cX9_init 40 = .ok (.getfield 21, 3) := by decide +kernel
theorem dX9_init_43 : decode cX9_init 43 = .ok (.invokespecial 27, 3) := by decide +kernel
theorem dX9_init_46 : decode cX9_init 46 = .ok (.putfield 30, 3) := by decide +kernel
theorem dX9_init_49 : decode cX9_init 49 = .ok (.aload_n 0, 1) := by decide +kernel
theorem dX9_init_50 : decode cX9_init 50 = .ok (.iconst 3, 1) := by decide +kernel
theorem dX9_init_51 : decode cX9_init 51 = .ok (.anewarray 34, 3) := by decide +kernel
theorem dX9_init_54 : decode cX9_init 54 = .ok (.putfield 36, 3) := by decide +kernel
theorem dX9_init_57 : decode cX9_init 57 = .ok (.iconst 0, 1) := by decide +kernel
theorem dX9_init_58 : decode cX9_init 58 = .ok (.istore_n 1, 1) := by decide +kernel
theorem dX9_init_59 : decode cX9_init 59 = .ok (.iload_n 1, 1) := by decide +kernel
theorem dX9_init_60 : decode cX9_init 60 = .ok (.iconst 3, 1) := by decide +kernel
theorem dX9_init_61 : decode cX9_init 61 = .ok (.if_icmp .ge 23, 3) := by decide +kernel
theorem dX9_init_64 : decode cX9_init 64 = .ok (.aload_n 0, 1) := by decide +kernel
theorem dX9_init_65 : decode cX9_init 65 = .ok (.getfield 36, 3) := by decide +kernel
theorem dX9_init_68 : decode cX9_init 68 = .ok (.iload_n 1, 1) := by decide +kernel
theorem dX9_init_69 : decode cX9_init 69 = .ok (.new 34, 3) := by decide +kernel
theorem dX9_init_72 : decode cX9_init 72 = .ok (.dup, 1) := by decide +kernel
theorem dX9_init_73 : decode cX9_init 73 = .ok (.iload_n 1, 1) := by decide +kernel
theorem dX9_init_74 : decode cX9_init 74 = .ok (.invokespecial 40, 3) := by decide +kernel
theorem dX9_init_77 : decode cX9_init 77 = .ok (.aastore, 1) := by decide +kernel
theorem dX9_init_78 : decode cX9_init 78 = .ok (.iinc 1 1, 3) := by decide +kernel
theorem dX9_init_81 : decode cX9_init 81 = .ok (.goto (-22), 3) := by decide +kernel
theorem dX9_init_84 : decode cX9_init 84 = .ok (.aload_n 0, 1) := by decide +kernel
theorem dX9_init_85 : decode cX9_init 85 = .ok (.new 43, 3) := by decide +kernel
theorem dX9_init_88 : decode cX9_init 88 = .ok (.dup, 1) := by decide +kernel
theorem dX9_init_89 : decode cX9_init 89 = .ok (.aload_n 0, 1) := by decide +kernel
theorem dX9_init_90 : decode cX9_init 90 = .ok (.getfield 10, 3) := by decide +kernel
theorem dX9_init_93 : decode cX9_init 93 = .ok (.aload_n 0, 1) := by decide +kernel
theorem dX9_init_94 : decode cX9_init 94 = .ok (.getfield 21, 3) := by decide +kernel
theorem dX9_init_97 : decode cX9_init 97 = .ok (.aload_n 0, 1) := by decide +kernel
theorem dX9_init_98 : decode cX9_init 98 = .ok (.getfield 30, 3) := by decide +kernel
theorem dX9_init_101 : decode cX9_init 101 = .ok (.invokespecial 45, 3) := by decide +kernel
theorem dX9_init_104 : decode cX9_init 104 = .ok (.putfield 48, 3) := by decide +kernel
theorem dX9_init_107 : decode cX9_init 107 = .ok (.aload_n 0, 1) := by decide +kernel
theorem dX9_init_108 : decode cX9_init 108 = .ok (.new 52, 3) := by decide +kernel
theorem dX9_init_111 : decode cX9_init 111 = .ok (.dup, 1) := by decide +kernel
theorem dX9_init_112 : decode cX9_init 112 = .ok (.aload_n 0, 1) := by decide +kernel
theorem dX9_init_113 : decode cX9_init 113 = .ok (.getfield 10, 3) := by decide +kernel
theorem dX9_init_116 : decode cX9_init 116 = .ok (.aload_n 0, 1) := by decide +kernel
theorem dX9_init_117 : decode cX9_init 117 = .ok (.getfield 21, 3) := by decide +kernel
theorem dX9_init_120 : decode cX9_init 120 = .ok (.invokespecial 54, 3) := by decide +kernel
theorem dX9_init_123 : decode cX9_init 123 = .ok (.putfield 55, 3) := by decide +kernel
theorem dX9_init_126 : decode cX9_init 126 = .ok (.aload_n 0, 1) := by decide +kernel
theorem dX9_init_127 : decode cX9_init 127 = .ok (.new 59, 3) := by decide +kernel
theorem dX9_init_130 : decode cX9_init 130 = .ok (.dup, 1) := by decide +kernel
theorem dX9_init_131 : decode cX9_init 131 = .ok (.invokespecial 61, 3) := by decide +kernel
theorem dX9_init_134 : decode cX9_init 134 = .ok (.putfield 62, 3) := by decide +kernel
theorem dX9_init_137 : decode cX9_init 137 = .ok (.aload_n 0, 1) := by decide +kernel
theorem dX9_init_138 : decode cX9_init 138 = .ok (.new 66, 3) := by decide +kernel
theorem dX9_init_141 : decode cX9_init 141 = .ok (.dup, 1) := by decide +kernel
theorem dX9_init_142 : decode cX9_init 142 = .ok (.aload_n 0, 1) := by decide +kernel
theorem dX9_init_143 : decode cX9_init 143 = .ok (.getfield 10, 3) := by decide +kernel
theorem dX9_init_146 : decode cX9_init 146 = .ok (.invokespecial 68, 3) := by decide +kernel
theorem dX9_init_149 : decode cX9_init 149 = .ok (.putfield 69, 3) := by decide +kernel
theorem dX9_init_152 : decode cX9_init 152 = .ok (.return_, 1) := by decide +kernel
theorem zb_X9_init : zcB yX9_init cX9_init 2 none 0 := ⟨tw_81, tw_104, by decide +kernel⟩
theorem dX3_init_0 : decode cX3_init 0 = .ok (.aload_n 0, 1) := by decide +kernel
theorem dX3_init_1 : decode cX3_init 1 = .ok (.invokespecial 3, 3) := by decide +kernel
theorem dX3_init_4 : decode cX3_init 4 = .ok (.aload_n 0, 1) := by decide +kernel
theorem dX3_init_5 : decode cX3_init 5 = .ok (.iconst 1, 1) := by decide +kernel
theorem dX3_init_6 : decode cX3_init 6 = .ok (.putfield 9, 3) := by decide +kernel
theorem dX3_init_9 : decode cX3_init 9 = .ok (.aload_n 0, 1) := by decide +kernel
theorem dX3_init_10 : decode cX3_init 10 = .ok (.iconst 0, 1) := by decide +kernel
theorem dX3_init_11 : decode cX3_init 11 = .ok (.putfield 15, 3) := by decide +kernel
theorem dX3_init_14 : decode cX3_init 14 = .ok (.aload_n 0, 1) := by decide +kernel
theorem dX3_init_15 : decode cX3_init 15 = .ok (.iconst 0, 1) := by decide +kernel
theorem dX3_init_16 : decode cX3_init 16 = .ok (.putfield 18, 3) := by decide +kernel
theorem dX3_init_19 : decode cX3_init 19 = .ok (.aload_n 0, 1) := by decide +kernel
theorem dX3_init_20 : decode cX3_init 20 = .ok (.bipush 30, 2) := by decide +kernel
theorem dX3_init_22 : decode cX3_init 22 = .ok (.newarray .int, 2) := by decide +kernel
theorem dX3_init_24 : decode cX3_init 24 = .ok (.putfield 21, 3) := by decide +kernel
theorem dX3_init_27 : decode cX3_init 27 = .ok (.aload_n 0, 1) := by decide +kernel
theorem dX3_init_28 : decode cX3_init 28 = .ok (.bipush 30, 2) := by decide +kernel
theorem dX3_init_30 : decode cX3_init 30 = .ok (.newarray .int, 2) := by decide +kernel
theorem dX3_init_32 : decode cX3_init 32 = .ok (.putfield 25, 3) := by decide +kernel
theorem dX3_init_35 : decode cX3_init 35 = .ok (.aload_n 0, 1) := by decide +kernel
theorem dX3_init_36 : decode cX3_init 36 = .ok (.bipush 12, 2) := by decide +kernel
theorem dX3_init_38 : decode cX3_init 38 = .ok (.newarray .int, 2) := by decide +kernel
theorem dX3_init_40 : decode cX3_init 40 = .ok (.putfield 28, 3) := by decide +kernel
theorem dX3_init_43 : decode cX3_init 43 = .ok (.return_, 1) := by decide +kernel
theorem zb_X3_init : zcB yX3_init cX3_init 1 none 0 := ⟨tw_82, tw_112, by decide +kernel⟩
def mi_Net_1 (M : zM) : zM := (zmn (zmn (zmn (zs (zs (zs M 1 0 1) 1 1 0) 1 2 0) 2) 3) 4)
def ri_Net_1 (R : zR) : zR := (zrs (zrn (zrs (zrn (zrs (zrn R 2) 1 3 2) 3) 1 4 3) 4) 1 5 4)
theorem nw_Net_1 {R : zR} (h : nW 2 R) : nW 5 (ri_Net_1 R) := (nW_set (nW_new (nW_set (nW_new (nW_set (nW_new h) (by decide))) (by decide))) (by decide))
set_option maxRecDepth 20000 in
theorem ni_Net_1 (l : Launch) (G : zG) (M : zM) (R : zR) : nC l G 1 3 72 yX3_init cX3_init 1 [.ref 1] (zLX.take 2) M R (zLX.take 5) (mi_Net_1 M) (ri_Net_1 R) := by
  refine nC.of (by decide) rfl (Nat.le_of_ble_eq_true rfl) ?_
  refine n_aload_n (pc := 0) dX3_init_0 rfl ?_
  refine n_obj (pc := 1) tw_113 (by decide) rfl dX3_init_1 ?_
  refine n_aload_n (pc := 4) dX3_init_4 rfl ?_
  refine n_iconst (pc := 5) 1 dX3_init_5 (by decide) ?_
  refine n_putI (pc := 6) (q := 0) zk3 rfl rfl tw_114 rfl rfl rfl dX3_init_6 ?_
  refine n_aload_n (pc := 9) dX3_init_9 rfl ?_
  refine n_iconst (pc := 10) 0 dX3_init_10 (by decide) ?_
  refine n_putI (pc := 11) (q := 1) zk3 rfl rfl tw_120 rfl rfl rfl dX3_init_11 ?_
  refine n_aload_n (pc := 14) dX3_init_14 rfl ?_
  refine n_iconst (pc := 15) 0 dX3_init_15 (by decide) ?_
  refine n_putI (pc := 16) (q := 2) zk3 rfl rfl tw_125 rfl rfl rfl dX3_init_16 ?_
  refine n_aload_n (pc := 19) dX3_init_19 rfl ?_
  refine n_bipush (pc := 20) 30 dX3_init_20 (by decide) ?_
  refine n_newa_i (pc := 22) 2 30 rfl (by decide) tw_153 (by decide) (by decide) (by decide) (by decide) (by decide) rfl rfl dX3_init_22 ?_
  refine n_putFR (pc := 24) (q := 3) zk3 rfl rfl tw_129 rfl rfl (fun _ => ⟨rfl, rfl⟩) (by decide) dX3_init_24 ?_
  refine n_aload_n (pc := 27) dX3_init_27 rfl ?_
  refine n_bipush (pc := 28) 30 dX3_init_28 (by decide) ?_
  refine n_newa_i (pc := 30) 3 30 rfl (by decide) tw_153 (by decide) (by decide) (by decide) (by decide) (by decide) rfl rfl dX3_init_30 ?_
  refine n_putFR (pc := 32) (q := 4) zk3 rfl rfl tw_133 rfl rfl (fun _ => ⟨rfl, rfl⟩) (by decide) dX3_init_32 ?_
  refine n_aload_n (pc := 35) dX3_init_35 rfl ?_
  refine n_bipush (pc := 36) 12 dX3_init_36 (by decide) ?_
  refine n_newa_i (pc := 38) 4 12 rfl (by decide) tw_153 (by decide) (by decide) (by decide) (by decide) (by decide) rfl rfl dX3_init_38 ?_
  refine n_putFR (pc := 40) (q := 5) zk3 rfl rfl tw_137 rfl rfl (fun _ => ⟨rfl, rfl⟩) (by decide) dX3_init_40 ?_
  exact n_vret (pc := 43) dX3_init_43 (by decide) (by decide) rfl rfl rfl
theorem dX8_init_0 : decode cX8_init 0 = .ok (.aload_n 0, 1) := by decide +kernel
theorem dX8_init_1 : decode cX8_init 1 = .ok (.invokespecial 3, 3) := by decide +kernel
theorem dX8_init_4 : decode cX8_init 4 = .ok (.aload_n 0, 1) := by decide +kernel
theorem dX8_init_5 : decode cX8_init 5 = .ok (.iconst 0, 1) := by decide +kernel
theorem dX8_init_6 : decode cX8_init 6 = .ok (.putfield 9, 3) := by decide +kernel
theorem dX8_init_9 : decode cX8_init 9 = .ok (.aload_n 0, 1) := by decide +kernel
theorem dX8_init_10 : decode cX8_init 10 = .ok (.iconst 0, 1) := by decide +kernel
theorem dX8_init_11 : decode cX8_init 11 = .ok (.putfield 15, 3) := by decide +kernel
theorem dX8_init_14 : decode cX8_init 14 = .ok (.aload_n 0, 1) := by decide +kernel
theorem dX8_init_15 : decode cX8_init 15 = .ok (.bipush 12, 2) := by decide +kernel
theorem dX8_init_17 : decode cX8_init 17 = .ok (.newarray .int, 2) := by decide +kernel
theorem dX8_init_19 : decode cX8_init 19 = .ok (.putfield 18, 3) := by decide +kernel
theorem dX8_init_22 : decode cX8_init 22 = .ok (.aload_n 0, 1) := by decide +kernel
theorem dX8_init_23 : decode cX8_init 23 = .ok (.bipush 12, 2) := by decide +kernel
theorem dX8_init_25 : decode cX8_init 25 = .ok (.newarray .int, 2) := by decide +kernel
theorem dX8_init_27 : decode cX8_init 27 = .ok (.putfield 22, 3) := by decide +kernel
theorem dX8_init_30 : decode cX8_init 30 = .ok (.aload_n 0, 1) := by decide +kernel
theorem dX8_init_31 : decode cX8_init 31 = .ok (.bipush 12, 2) := by decide +kernel
theorem dX8_init_33 : decode cX8_init 33 = .ok (.newarray .int, 2) := by decide +kernel
theorem dX8_init_35 : decode cX8_init 35 = .ok (.putfield 25, 3) := by decide +kernel
theorem dX8_init_38 : decode cX8_init 38 = .ok (.aload_n 0, 1) := by decide +kernel
theorem dX8_init_39 : decode cX8_init 39 = .ok (.bipush 12, 2) := by decide +kernel
theorem dX8_init_41 : decode cX8_init 41 = .ok (.newarray .int, 2) := by decide +kernel
theorem dX8_init_43 : decode cX8_init 43 = .ok (.putfield 28, 3) := by decide +kernel
theorem dX8_init_46 : decode cX8_init 46 = .ok (.aload_n 0, 1) := by decide +kernel
theorem dX8_init_47 : decode cX8_init 47 = .ok (.bipush 12, 2) := by decide +kernel
theorem dX8_init_49 : decode cX8_init 49 = .ok (.newarray .int, 2) := by decide +kernel
theorem dX8_init_51 : decode cX8_init 51 = .ok (.putfield 31, 3) := by decide +kernel
theorem dX8_init_54 : decode cX8_init 54 = .ok (.aload_n 0, 1) := by decide +kernel
theorem dX8_init_55 : decode cX8_init 55 = .ok (.bipush 30, 2) := by decide +kernel
theorem dX8_init_57 : decode cX8_init 57 = .ok (.newarray .int, 2) := by decide +kernel
theorem dX8_init_59 : decode cX8_init 59 = .ok (.putfield 34, 3) := by decide +kernel
theorem dX8_init_62 : decode cX8_init 62 = .ok (.aload_n 0, 1) := by decide +kernel
theorem dX8_init_63 : decode cX8_init 63 = .ok (.bipush 12, 2) := by decide +kernel
theorem dX8_init_65 : decode cX8_init 65 = .ok (.newarray .int, 2) := by decide +kernel
theorem dX8_init_67 : decode cX8_init 67 = .ok (.putfield 37, 3) := by decide +kernel
theorem dX8_init_70 : decode cX8_init 70 = .ok (.aload_n 0, 1) := by decide +kernel
theorem dX8_init_71 : decode cX8_init 71 = .ok (.iconst 0, 1) := by decide +kernel
theorem dX8_init_72 : decode cX8_init 72 = .ok (.putfield 40, 3) := by decide +kernel
theorem dX8_init_75 : decode cX8_init 75 = .ok (.aload_n 0, 1) := by decide +kernel
theorem dX8_init_76 : decode cX8_init 76 = .ok (.iconst 0, 1) := by decide +kernel
theorem dX8_init_77 : decode cX8_init 77 = .ok (.putfield 43, 3) := by decide +kernel
theorem dX8_init_80 : decode cX8_init 80 = .ok (.aload_n 0, 1) := by decide +kernel
theorem dX8_init_81 : decode cX8_init 81 = .ok (.bipush 12, 2) := by decide +kernel
theorem dX8_init_83 : decode cX8_init 83 = .ok (.newarray .int, 2) := by decide +kernel
theorem dX8_init_85 : decode cX8_init 85 = .ok (.putfield 46, 3) := by decide +kernel
theorem dX8_init_88 : decode cX8_init 88 = .ok (.aload_n 0, 1) := by decide +kernel
theorem dX8_init_89 : decode cX8_init 89 = .ok (.iconst (-1), 1) := by decide +kernel
theorem dX8_init_90 : decode cX8_init 90 = .ok (.putfield 49, 3) := by decide +kernel
theorem dX8_init_93 : decode cX8_init 93 = .ok (.aload_n 0, 1) := by decide +kernel
theorem dX8_init_94 : decode cX8_init 94 = .ok (.aload_n 1, 1) := by decide +kernel
theorem dX8_init_95 : decode cX8_init 95 = .ok (.putfield 52, 3) := by decide +kernel
theorem dX8_init_98 : decode cX8_init 98 = .ok (.return_, 1) := by decide +kernel
theorem zb_X8_init : zcB yX8_init cX8_init 2 none 1 := ⟨tw_83, tw_158, by decide +kernel⟩
def mi_Tree_5 (M : zM) : zM := (zs (zmn (zs (zs (zmn (zmn (zmn (zmn (zmn (zmn (zmn (zs (zs M 5 1 0) 5 2 0) 6) 7) 8) 9) 10) 11) 12) 5 10 0) 5 11 0) 13) 5 13 (-1))
def ri_Tree_5 (R : zR) : zR := (zrs (zrs (zrn (zrs (zrn (zrs (zrn (zrs (zrn (zrs (zrn (zrs (zrn (zrs (zrn (zrs (zrn R 6) 5 3 6) 7) 5 4 7) 8) 5 5 8) 9) 5 6 9) 10) 5 7 10) 11) 5 8 11) 12) 5 9 12) 13) 5 12 13) 5 0 1)
theorem nw_Tree_5 {R : zR} (h : nW 6 R) : nW 14 (ri_Tree_5 R) := (nW_set (nW_set (nW_new (nW_set (nW_new (nW_set (nW_new (nW_set (nW_new (nW_set (nW_new (nW_set (nW_new (nW_set (nW_new (nW_set (nW_new h) (by decide))) (by decide))) (by decide))) (by decide))) (by decide))) (by decide))) (by decide))) (by decide)) (by decide))
set_option maxRecDepth 20000 in
theorem ni_Tree_5 (l : Launch) (G : zG) (M : zM) (R : zR) : nC l G 1 8 114 yX8_init cX8_init 2 [.ref 5, .ref 1] (zLX.take 6) M R (zLX.take 14) (mi_Tree_5 M) (ri_Tree_5 R) := by
  refine nC.of (by decide) rfl (Nat.le_of_ble_eq_true rfl) ?_
  refine n_aload_n (pc := 0) dX8_init_0 rfl ?_
  refine n_obj (pc := 1) tw_159 (by decide) rfl dX8_init_1 ?_
  refine n_aload_n (pc := 4) dX8_init_4 rfl ?_
  refine n_iconst (pc := 5) 0 dX8_init_5 (by decide) ?_
  refine n_putI (pc := 6) (q := 1) zk8 rfl rfl tw_161 rfl rfl rfl dX8_init_6 ?_
  refine n_aload_n (pc := 9) dX8_init_9 rfl ?_
  refine n_iconst (pc := 10) 0 dX8_init_10 (by decide) ?_
  refine n_putI (pc := 11) (q := 2) zk8 rfl rfl tw_163 rfl rfl rfl dX8_init_11 ?_
  refine n_aload_n (pc := 14) dX8_init_14 rfl ?_
  refine n_bipush (pc := 15) 12 dX8_init_15 (by decide) ?_
  refine n_newa_i (pc := 17) 6 12 rfl (by decide) tw_153 (by decide) (by decide) (by decide) (by decide) (by decide) rfl rfl dX8_init_17 ?_
  refine n_putFR (pc := 19) (q := 3) zk8 rfl rfl tw_165 rfl rfl (fun _ => ⟨rfl, rfl⟩) (by decide) dX8_init_19 ?_
  refine n_aload_n (pc := 22) dX8_init_22 rfl ?_
  refine n_bipush (pc := 23) 12 dX8_init_23 (by decide) ?_
  refine n_newa_i (pc := 25) 7 12 rfl (by decide) tw_153 (by decide) (by decide) (by decide) (by decide) (by decide) rfl rfl dX8_init_25 ?_
  refine n_putFR (pc := 27) (q := 4) zk8 rfl rfl tw_168 rfl rfl (fun _ => ⟨rfl, rfl⟩) (by decide) dX8_init_27 ?_
  refine n_aload_n (pc := 30) dX8_init_30 rfl ?_
  refine n_bipush (pc := 31) 12 dX8_init_31 (by decide) ?_
  refine n_newa_i (pc := 33) 8 12 rfl (by decide) tw_153 (by decide) (by decide) (by decide) (by decide) (by decide) rfl rfl dX8_init_33 ?_
  refine n_putFR (pc := 35) (q := 5) zk8 rfl rfl tw_172 rfl rfl (fun _ => ⟨rfl, rfl⟩) (by decide) dX8_init_35 ?_
  refine n_aload_n (pc := 38) dX8_init_38 rfl ?_
  refine n_bipush (pc := 39) 12 dX8_init_39 (by decide) ?_
  refine n_newa_i (pc := 41) 9 12 rfl (by decide) tw_153 (by decide) (by decide) (by decide) (by decide) (by decide) rfl rfl dX8_init_41 ?_
  refine n_putFR (pc := 43) (q := 6) zk8 rfl rfl tw_176 rfl rfl (fun _ => ⟨rfl, rfl⟩) (by decide) dX8_init_43 ?_
  refine n_aload_n (pc := 46) dX8_init_46 rfl ?_
  refine n_bipush (pc := 47) 12 dX8_init_47 (by decide) ?_
  refine n_newa_i (pc := 49) 10 12 rfl (by decide) tw_153 (by decide) (by decide) (by decide) (by decide) (by decide) rfl rfl dX8_init_49 ?_
  refine n_putFR (pc := 51) (q := 7) zk8 rfl rfl tw_178 rfl rfl (fun _ => ⟨rfl, rfl⟩) (by decide) dX8_init_51 ?_
  refine n_aload_n (pc := 54) dX8_init_54 rfl ?_
  refine n_bipush (pc := 55) 30 dX8_init_55 (by decide) ?_
  refine n_newa_i (pc := 57) 11 30 rfl (by decide) tw_153 (by decide) (by decide) (by decide) (by decide) (by decide) rfl rfl dX8_init_57 ?_
  refine n_putFR (pc := 59) (q := 8) zk8 rfl rfl tw_180 rfl rfl (fun _ => ⟨rfl, rfl⟩) (by decide) dX8_init_59 ?_
  refine n_aload_n (pc := 62) dX8_init_62 rfl ?_
  refine n_bipush (pc := 63) 12 dX8_init_63 (by decide) ?_
  refine n_newa_i (pc := 65) 12 12 rfl (by decide) tw_153 (by decide) (by decide) (by decide) (by decide) (by decide) rfl rfl dX8_init_65 ?_
  refine n_putFR (pc := 67) (q := 9) zk8 rfl rfl tw_183 rfl rfl (fun _ => ⟨rfl, rfl⟩) (by decide) dX8_init_67 ?_
  refine n_aload_n (pc := 70) dX8_init_70 rfl ?_
  refine n_iconst (pc := 71) 0 dX8_init_71 (by decide) ?_
  refine n_putI (pc := 72) (q := 10) zk8 rfl rfl tw_184 rfl rfl rfl dX8_init_72 ?_
  refine n_aload_n (pc := 75) dX8_init_75 rfl ?_
  refine n_iconst (pc := 76) 0 dX8_init_76 (by decide) ?_
  refine n_putI (pc := 77) (q := 11) zk8 rfl rfl tw_185 rfl rfl rfl dX8_init_77 ?_
  refine n_aload_n (pc := 80) dX8_init_80 rfl ?_
  refine n_bipush (pc := 81) 12 dX8_init_81 (by decide) ?_
  refine n_newa_i (pc := 83) 13 12 rfl (by decide) tw_153 (by decide) (by decide) (by decide) (by decide) (by decide) rfl rfl dX8_init_83 ?_
  refine n_putFR (pc := 85) (q := 12) zk8 rfl rfl tw_186 rfl rfl (fun _ => ⟨rfl, rfl⟩) (by decide) dX8_init_85 ?_
  refine n_aload_n (pc := 88) dX8_init_88 rfl ?_
  refine n_iconst (pc := 89) (-1) dX8_init_89 (by decide) ?_
  refine n_putI (pc := 90) (q := 13) zk8 rfl rfl tw_187 rfl rfl rfl dX8_init_90 ?_
  refine n_aload_n (pc := 93) dX8_init_93 rfl ?_
  refine n_aload_n (pc := 94) dX8_init_94 rfl ?_
  refine n_putFR (pc := 95) (q := 0) zk8 rfl rfl tw_160 rfl rfl (fun _ => ⟨rfl, rfl⟩) (by decide) dX8_init_95 ?_
  exact n_vret (pc := 98) dX8_init_98 (by decide) (by decide) rfl rfl rfl
theorem dX1_init_0 : decode cX1_init 0 = .ok (.aload_n 0, 1) := by decide +kernel
theorem dX1_init_1 : decode cX1_init 1 = .ok (.invokespecial 3, 3) := by decide +kernel
theorem dX1_init_4 : decode cX1_init 4 = .ok (.aload_n 0, 1) := by decide +kernel
theorem dX1_init_5 : decode cX1_init 5 = .ok (.iconst 3, 1) := by decide +kernel
theorem dX1_init_6 : decode cX1_init 6 = .ok (.anewarray 9, 3) := by decide +kernel
theorem dX1_init_9 : decode cX1_init 9 = .ok (.putfield 11, 3) := by decide +kernel
theorem dX1_init_12 : decode cX1_init 12 = .ok (.aload_n 0, 1) := by decide +kernel
theorem dX1_init_13 : decode cX1_init 13 = .ok (.iconst 3, 1) := by decide +kernel
theorem dX1_init_14 : decode cX1_init 14 = .ok (.newarray .int, 2) := by decide +kernel
theorem dX1_init_16 : decode cX1_init 16 = .ok (.putfield 17, 3) := by decide +kernel
theorem dX1_init_19 : decode cX1_init 19 = .ok (.aload_n 0, 1) := by decide +kernel
theorem dX1_init_20 : decode cX1_init 20 = .ok (.bipush 12, 2) := by decide +kernel
theorem dX1_init_22 : decode cX1_init 22 = .ok (.newarray .int, 2) := by decide +kernel
theorem dX1_init_24 : decode cX1_init 24 = .ok (.putfield 21, 3) := by decide +kernel
theorem dX1_init_27 : decode cX1_init 27 = .ok (.aload_n 0, 1) := by decide +kernel
theorem dX1_init_28 : decode cX1_init 28 = .ok (.bipush 12, 2) := by decide +kernel
theorem dX1_init_30 : decode cX1_init 30 = .ok (.newarray .int, 2) := by decide +kernel
theorem dX1_init_32 : decode cX1_init 32 = .ok (.putfield 24, 3) := by decide +kernel
theorem dX1_init_35 : decode cX1_init 35 = .ok (.aload_n 0, 1) := by decide +kernel
theorem dX1_init_36 : decode cX1_init 36 = .ok (.bipush 12, 2) := by decide +kernel
theorem dX1_init_38 : decode cX1_init 38 = .ok (.newarray .int, 2) := by decide +kernel
theorem dX1_init_40 : decode cX1_init 40 = .ok (.putfield 27, 3) := by decide +kernel
theorem dX1_init_43 : decode cX1_init 43 = .ok (.aload_n 0, 1) := by decide +kernel
theorem dX1_init_44 : decode cX1_init 44 = .ok (.bipush 12, 2) := by decide +kernel
theorem dX1_init_46 : decode cX1_init 46 = .ok (.newarray .int, 2) := by decide +kernel
theorem dX1_init_48 : decode cX1_init 48 = .ok (.putfield 30, 3) := by decide +kernel
theorem dX1_init_51 : decode cX1_init 51 = .ok (.aload_n 0, 1) := by decide +kernel
theorem dX1_init_52 : decode cX1_init 52 = .ok (.bipush 12, 2) := by decide +kernel
theorem dX1_init_54 : decode cX1_init 54 = .ok (.newarray .int, 2) := by decide +kernel
theorem dX1_init_56 : decode cX1_init 56 = .ok (.putfield 33, 3) := by decide +kernel
theorem dX1_init_59 : decode cX1_init 59 = .ok (.aload_n 0, 1) := by decide +kernel
theorem dX1_init_60 : decode cX1_init 60 = .ok (.bipush 12, 2) := by decide +kernel
theorem dX1_init_62 : decode cX1_init 62 = .ok (.newarray .int, 2) := by decide +kernel
theorem dX1_init_64 : decode cX1_init 64 = .ok (.putfield 36, 3) := by decide +kernel
theorem dX1_init_67 : decode cX1_init 67 = .ok (.aload_n 0, 1) := by decide +kernel
theorem dX1_init_68 : decode cX1_init 68 = .ok (.aload_n 1, 1) := by decide +kernel
theorem dX1_init_69 : decode cX1_init 69 = .ok (.putfield 39, 3) := by decide +kernel
theorem dX1_init_72 : decode cX1_init 72 = .ok (.aload_n 0, 1) := by decide +kernel
theorem dX1_init_73 : decode cX1_init 73 = .ok (.aload_n 2, 1) := by decide +kernel
theorem dX1_init_74 : decode cX1_init 74 = .ok (.putfield 43, 3) := by decide +kernel
theorem dX1_init_77 : decode cX1_init 77 = .ok (.iconst 0, 1) := by decide +kernel
theorem dX1_init_78 : decode cX1_init 78 = .ok (.istore_n 3, 1) := by decide +kernel
theorem dX1_init_79 : decode cX1_init 79 = .ok (.iload_n 3, 1) := by decide +kernel
theorem dX1_init_80 : decode cX1_init 80 = .ok (.iconst 3, 1) := by decide +kernel
theorem dX1_init_81 : decode cX1_init 81 = .ok (.if_icmp .ge 30, 3) := by decide +kernel
theorem dX1_init_84 : decode cX1_init 84 = .ok (.aload_n 0, 1) := by decide +kernel
theorem dX1_init_85 : decode cX1_init 85 = .ok (.getfield 11, 3) := by decide +kernel
theorem dX1_init_88 : decode cX1_init 88 = .ok (.iload_n 3, 1) := by decide +kernel
theorem dX1_init_89 : decode cX1_init 89 = .ok (.new 9, 3) := by decide +kernel
theorem dX1_init_92 : decode cX1_init 92 = .ok (.dup, 1) := by decide +kernel
theorem dX1_init_93 : decode cX1_init 93 = .ok (.iload_n 3, 1) := by decide +kernel
theorem dX1_init_94 : decode cX1_init 94 = .ok (.invokespecial 47, 3) := by decide +kernel
theorem dX1_init_97 : decode cX1_init 97 = .ok (.aastore, 1) := by decide +kernel
theorem dX1_init_98 : decode cX1_init 98 = .ok (.aload_n 0, 1) := by decide +kernel
theorem dX1_init_99 : decode cX1_init 99 = .ok (.getfield 17, 3) := by decide +kernel
theorem dX1_init_102 : decode cX1_init 102 = .ok (.iload_n 3, 1) := by decide +kernel
theorem dX1_init_103 : decode cX1_init 103 = .ok (.iconst (-1), 1) := by decide +kernel
theorem dX1_init_104 : decode cX1_init 104 = .ok (.iastore, 1) := by decide +kernel
theorem dX1_init_105 : decode cX1_init 105 = .ok (.iinc 3 1, 3) := by decide +kernel
theorem dX1_init_108 : decode cX1_init 108 = .ok (.goto (-29), 3) := by decide +kernel
theorem dX1_init_111 : decode cX1_init 111 = .ok (.return_, 1) := by decide +kernel
theorem zb_X1_init : zcB yX1_init cX1_init 4 none 2 := ⟨tw_84, tw_221, by decide +kernel⟩
theorem dX2_init_0 : decode cX2_init 0 = .ok (.aload_n 0, 1) := by decide +kernel
theorem dX2_init_1 : decode cX2_init 1 = .ok (.invokespecial 3, 3) := by decide +kernel
theorem dX2_init_4 : decode cX2_init 4 = .ok (.aload_n 0, 1) := by decide +kernel
theorem dX2_init_5 : decode cX2_init 5 = .ok (.iconst 0, 1) := by decide +kernel
theorem dX2_init_6 : decode cX2_init 6 = .ok (.putfield 9, 3) := by decide +kernel
theorem dX2_init_9 : decode cX2_init 9 = .ok (.aload_n 0, 1) := by decide +kernel
theorem dX2_init_10 : decode cX2_init 10 = .ok (.bipush 12, 2) := by decide +kernel
theorem dX2_init_12 : decode cX2_init 12 = .ok (.newarray .int, 2) := by decide +kernel
theorem dX2_init_14 : decode cX2_init 14 = .ok (.putfield 15, 3) := by decide +kernel
theorem dX2_init_17 : decode cX2_init 17 = .ok (.aload_n 0, 1) := by decide +kernel
theorem dX2_init_18 : decode cX2_init 18 = .ok (.iload_n 1, 1) := by decide +kernel
theorem dX2_init_19 : decode cX2_init 19 = .ok (.putfield 19, 3) := by decide +kernel
theorem dX2_init_22 : decode cX2_init 22 = .ok (.aload_n 0, 1) := by decide +kernel
theorem dX2_init_23 : decode cX2_init 23 = .ok (.iload_n 1, 1) := by decide +kernel
theorem dX2_init_24 : decode cX2_init 24 = .ok (.ifCond .ne 7, 3) := by decide +kernel
theorem dX2_init_27 : decode cX2_init 27 = .ok (.iconst 2, 1) := by decide +kernel
theorem dX2_init_28 : decode cX2_init 28 = .ok (.goto 15, 3) := by decide +kernel
theorem dX2_init_31 : decode cX2_init 31 = .ok (.iload_n 1, 1) := by decide +kernel
theorem dX2_init_32 : decode cX2_init 32 = .ok (.iconst 1, 1) := by decide +kernel
theorem dX2_init_33 : decode cX2_init 33 = .ok (.if_icmp .ne 8, 3) := by decide +kernel
theorem dX2_init_36 : decode cX2_init 36 = .ok (.bipush 12, 2) := by decide +kernel
theorem dX2_init_38 : decode cX2_init 38 = .ok (.goto 5, 3) := by decide +kernel
theorem dX2_init_41 : decode cX2_init 41 = .ok (.bipush 24, 2) := by decide +kernel
theorem dX2_init_43 : decode cX2_init 43 = .ok (.putfield 22, 3) := by decide +kernel
theorem dX2_init_46 : decode cX2_init 46 = .ok (.aload_n 0, 1) := by decide +kernel
theorem dX2_init_47 : decode cX2_init 47 = .ok (.bipush 12, 2) := by decide +kernel
theorem dX2_init_49 : decode cX2_init 49 = .ok (.aload_n 0, 1) := by decide +kernel
theorem dX2_init_50 : decode cX2_init 50 = .ok (.getfield 22, 3) := by decide +kernel
theorem dX2_init_53 : decode cX2_init 53 = .ok (.imul, 1) := by decide +kernel
theorem dX2_init_54 : decode cX2_init 54 = .ok (.newarray .int, 2) := by decide +kernel
theorem dX2_init_56 : decode cX2_init 56 = .ok (.putfield 25, 3) := by decide +kernel
theorem dX2_init_59 : decode cX2_init 59 = .ok (.return_, 1) := by decide +kernel
theorem zb_X2_init : zcB yX2_init cX2_init 2 none 1 := ⟨tw_85, tw_228, by decide +kernel⟩
def mi_Names_23 (M : zM) : zM := (zmn (zs (zs (zmn (zs M 23 2 0) 24) 23 0 0) 23 1 2) 25)
def ri_Names_23 (R : zR) : zR := (zrs (zrn (zrs (zrn R 24) 23 3 24) 25) 23 4 25)
theorem nw_Names_23 {R : zR} (h : nW 24 R) : nW 26 (ri_Names_23 R) := (nW_set (nW_new (nW_set (nW_new h) (by decide))) (by decide))
set_option maxRecDepth 20000 in
theorem ni_Names_23 (l : Launch) (G : zG) (M : zM) (R : zR) : nC l G 1 2 36 yX2_init cX2_init 2 [.ref 23, .int 0] (zLX.take 24) M R (zLX.take 26) (mi_Names_23 M) (ri_Names_23 R) := by
  refine nC.of (by decide) rfl (Nat.le_of_ble_eq_true rfl) ?_
  refine n_aload_n (pc := 0) dX2_init_0 rfl ?_
  refine n_obj (pc := 1) tw_229 (by decide) rfl dX2_init_1 ?_
  refine n_aload_n (pc := 4) dX2_init_4 rfl ?_
  refine n_iconst (pc := 5) 0 dX2_init_5 (by decide) ?_
  refine n_putI (pc := 6) (q := 2) zk2 rfl rfl tw_232 rfl rfl rfl dX2_init_6 ?_
  refine n_aload_n (pc := 9) dX2_init_9 rfl ?_
  refine n_bipush (pc := 10) 12 dX2_init_10 (by decide) ?_
  refine n_newa_i (pc := 12) 24 12 rfl (by decide) tw_153 (by decide) (by decide) (by decide) (by decide) (by decide) rfl rfl dX2_init_12 ?_
  refine n_putFR (pc := 14) (q := 3) zk2 rfl rfl tw_234 rfl rfl (fun _ => ⟨rfl, rfl⟩) (by decide) dX2_init_14 ?_
  refine n_aload_n (pc := 17) dX2_init_17 rfl ?_
  refine n_iload_n (pc := 18) dX2_init_18 rfl ?_
  refine n_putFI (pc := 19) (q := 0) zk2 rfl rfl tw_230 rfl rfl rfl rfl dX2_init_19 ?_
  refine n_aload_n (pc := 22) dX2_init_22 rfl ?_
  refine n_iload_n (pc := 23) dX2_init_23 rfl ?_
  refine n_if_ne_f (pc := 24) 31 dX2_init_24 (by decide) (by decide) ?_
  refine n_iconst (pc := 27) 2 dX2_init_27 (by decide) ?_
  refine n_goto (pc := 28) 43 dX2_init_28 (by decide) ?_
  refine n_putFI (pc := 43) (q := 1) zk2 rfl rfl tw_231 rfl rfl rfl rfl dX2_init_43 ?_
  refine n_aload_n (pc := 46) dX2_init_46 rfl ?_
  refine n_bipush (pc := 47) 12 dX2_init_47 (by decide) ?_
  refine n_aload_n (pc := 49) dX2_init_49 rfl ?_
  refine n_getI (pc := 50) (q := 1) 2 zk2 rfl rfl tw_231 rfl dX2_init_50 ?_
  refine n_imul (pc := 53) 24 dX2_init_53 (by decide) ?_
  refine n_newa_i (pc := 54) 25 24 rfl (by decide) tw_153 (by decide) (by decide) (by decide) (by decide) (by decide) rfl rfl dX2_init_54 ?_
  refine n_putFR (pc := 56) (q := 4) zk2 rfl rfl tw_237 rfl rfl (fun _ => ⟨rfl, rfl⟩) (by decide) dX2_init_56 ?_
  exact n_vret (pc := 59) dX2_init_59 (by decide) (by decide) rfl rfl rfl
def mi_Names_26 (M : zM) : zM := (zmn (zs (zs (zmn (zs M 26 2 0) 27) 26 0 1) 26 1 12) 28)
def ri_Names_26 (R : zR) : zR := (zrs (zrn (zrs (zrn R 27) 26 3 27) 28) 26 4 28)
theorem nw_Names_26 {R : zR} (h : nW 27 R) : nW 29 (ri_Names_26 R) := (nW_set (nW_new (nW_set (nW_new h) (by decide))) (by decide))
set_option maxRecDepth 20000 in
theorem ni_Names_26 (l : Launch) (G : zG) (M : zM) (R : zR) : nC l G 1 2 156 yX2_init cX2_init 2 [.ref 26, .int 1] (zLX.take 27) M R (zLX.take 29) (mi_Names_26 M) (ri_Names_26 R) := by
  refine nC.of (by decide) rfl (Nat.le_of_ble_eq_true rfl) ?_
  refine n_aload_n (pc := 0) dX2_init_0 rfl ?_
  refine n_obj (pc := 1) tw_229 (by decide) rfl dX2_init_1 ?_
  refine n_aload_n (pc := 4) dX2_init_4 rfl ?_
  refine n_iconst (pc := 5) 0 dX2_init_5 (by decide) ?_
  refine n_putI (pc := 6) (q := 2) zk2 rfl rfl tw_232 rfl rfl rfl dX2_init_6 ?_
  refine n_aload_n (pc := 9) dX2_init_9 rfl ?_
  refine n_bipush (pc := 10) 12 dX2_init_10 (by decide) ?_
  refine n_newa_i (pc := 12) 27 12 rfl (by decide) tw_153 (by decide) (by decide) (by decide) (by decide) (by decide) rfl rfl dX2_init_12 ?_
  refine n_putFR (pc := 14) (q := 3) zk2 rfl rfl tw_234 rfl rfl (fun _ => ⟨rfl, rfl⟩) (by decide) dX2_init_14 ?_
  refine n_aload_n (pc := 17) dX2_init_17 rfl ?_
  refine n_iload_n (pc := 18) dX2_init_18 rfl ?_
  refine n_putFI (pc := 19) (q := 0) zk2 rfl rfl tw_230 rfl rfl rfl rfl dX2_init_19 ?_
  refine n_aload_n (pc := 22) dX2_init_22 rfl ?_
  refine n_iload_n (pc := 23) dX2_init_23 rfl ?_
  refine n_if_ne_t (pc := 24) 31 dX2_init_24 (by decide) (by decide) ?_
  refine n_iload_n (pc := 31) dX2_init_31 rfl ?_
  refine n_iconst (pc := 32) 1 dX2_init_32 (by decide) ?_
  refine n_icmp_ne_f (pc := 33) 41 dX2_init_33 (by decide) (by decide) ?_
  refine n_bipush (pc := 36) 12 dX2_init_36 (by decide) ?_
  refine n_goto (pc := 38) 43 dX2_init_38 (by decide) ?_
  refine n_putFI (pc := 43) (q := 1) zk2 rfl rfl tw_231 rfl rfl rfl rfl dX2_init_43 ?_
  refine n_aload_n (pc := 46) dX2_init_46 rfl ?_
  refine n_bipush (pc := 47) 12 dX2_init_47 (by decide) ?_
  refine n_aload_n (pc := 49) dX2_init_49 rfl ?_
  refine n_getI (pc := 50) (q := 1) 12 zk2 rfl rfl tw_231 rfl dX2_init_50 ?_
  refine n_imul (pc := 53) 144 dX2_init_53 (by decide) ?_
  refine n_newa_i (pc := 54) 28 144 rfl (by decide) tw_153 (by decide) (by decide) (by decide) (by decide) (by decide) rfl rfl dX2_init_54 ?_
  refine n_putFR (pc := 56) (q := 4) zk2 rfl rfl tw_237 rfl rfl (fun _ => ⟨rfl, rfl⟩) (by decide) dX2_init_56 ?_
  exact n_vret (pc := 59) dX2_init_59 (by decide) (by decide) rfl rfl rfl
def mi_Names_29 (M : zM) : zM := (zmn (zs (zs (zmn (zs M 29 2 0) 30) 29 0 2) 29 1 24) 31)
def ri_Names_29 (R : zR) : zR := (zrs (zrn (zrs (zrn R 30) 29 3 30) 31) 29 4 31)
theorem nw_Names_29 {R : zR} (h : nW 30 R) : nW 32 (ri_Names_29 R) := (nW_set (nW_new (nW_set (nW_new h) (by decide))) (by decide))
set_option maxRecDepth 20000 in
theorem ni_Names_29 (l : Launch) (G : zG) (M : zM) (R : zR) : nC l G 1 2 300 yX2_init cX2_init 2 [.ref 29, .int 2] (zLX.take 30) M R (zLX.take 32) (mi_Names_29 M) (ri_Names_29 R) := by
  refine nC.of (by decide) rfl (Nat.le_of_ble_eq_true rfl) ?_
  refine n_aload_n (pc := 0) dX2_init_0 rfl ?_
  refine n_obj (pc := 1) tw_229 (by decide) rfl dX2_init_1 ?_
  refine n_aload_n (pc := 4) dX2_init_4 rfl ?_
  refine n_iconst (pc := 5) 0 dX2_init_5 (by decide) ?_
  refine n_putI (pc := 6) (q := 2) zk2 rfl rfl tw_232 rfl rfl rfl dX2_init_6 ?_
  refine n_aload_n (pc := 9) dX2_init_9 rfl ?_
  refine n_bipush (pc := 10) 12 dX2_init_10 (by decide) ?_
  refine n_newa_i (pc := 12) 30 12 rfl (by decide) tw_153 (by decide) (by decide) (by decide) (by decide) (by decide) rfl rfl dX2_init_12 ?_
  refine n_putFR (pc := 14) (q := 3) zk2 rfl rfl tw_234 rfl rfl (fun _ => ⟨rfl, rfl⟩) (by decide) dX2_init_14 ?_
  refine n_aload_n (pc := 17) dX2_init_17 rfl ?_
  refine n_iload_n (pc := 18) dX2_init_18 rfl ?_
  refine n_putFI (pc := 19) (q := 0) zk2 rfl rfl tw_230 rfl rfl rfl rfl dX2_init_19 ?_
  refine n_aload_n (pc := 22) dX2_init_22 rfl ?_
  refine n_iload_n (pc := 23) dX2_init_23 rfl ?_
  refine n_if_ne_t (pc := 24) 31 dX2_init_24 (by decide) (by decide) ?_
  refine n_iload_n (pc := 31) dX2_init_31 rfl ?_
  refine n_iconst (pc := 32) 1 dX2_init_32 (by decide) ?_
  refine n_icmp_ne_t (pc := 33) 41 dX2_init_33 (by decide) (by decide) ?_
  refine n_bipush (pc := 41) 24 dX2_init_41 (by decide) ?_
  refine n_putFI (pc := 43) (q := 1) zk2 rfl rfl tw_231 rfl rfl rfl rfl dX2_init_43 ?_
  refine n_aload_n (pc := 46) dX2_init_46 rfl ?_
  refine n_bipush (pc := 47) 12 dX2_init_47 (by decide) ?_
  refine n_aload_n (pc := 49) dX2_init_49 rfl ?_
  refine n_getI (pc := 50) (q := 1) 24 zk2 rfl rfl tw_231 rfl dX2_init_50 ?_
  refine n_imul (pc := 53) 288 dX2_init_53 (by decide) ?_
  refine n_newa_i (pc := 54) 31 288 rfl (by decide) tw_153 (by decide) (by decide) (by decide) (by decide) (by decide) rfl rfl dX2_init_54 ?_
  refine n_putFR (pc := 56) (q := 4) zk2 rfl rfl tw_237 rfl rfl (fun _ => ⟨rfl, rfl⟩) (by decide) dX2_init_56 ?_
  exact n_vret (pc := 59) dX2_init_59 (by decide) (by decide) rfl rfl rfl
def mi_Labels_14 (M : zM) : zM := (zs (mi_Names_29 (zmn (zs (mi_Names_26 (zmn (zs (mi_Names_23 (zmn (zmn (zmn (zmn (zmn (zmn (zmn (zmn (zmn M 15) 16) 17) 18) 19) 20) 21) 22) 23)) 16 0 (-1)) 26)) 16 1 (-1)) 29)) 16 2 (-1))
def ri_Labels_14 (R : zR) : zR := (zrs (ri_Names_29 (zrn (zrs (ri_Names_26 (zrn (zrs (ri_Names_23 (zrn (zrs (zrs (zrs (zrn (zrs (zrn (zrs (zrn (zrs (zrn (zrs (zrn (zrs (zrn (zrs (zrn (zrs (zrn R 15) 14 2 15) 16) 14 3 16) 17) 14 4 17) 18) 14 5 18) 19) 14 6 19) 20) 14 7 20) 21) 14 8 21) 22) 14 9 22) 14 0 1) 14 1 5) 23)) 15 0 23) 26)) 15 1 26) 29)) 15 2 29)
theorem nw_Labels_14 {R : zR} (h : nW 15 R) : nW 32 (ri_Labels_14 R) := (nW_set (nw_Names_29 (nW_new (nW_set (nw_Names_26 (nW_new (nW_set (nw_Names_23 (nW_new (nW_set (nW_set (nW_set (nW_new (nW_set (nW_new (nW_set (nW_new (nW_set (nW_new (nW_set (nW_new (nW_set (nW_new (nW_set (nW_new (nW_set (nW_new h) (by decide))) (by decide))) (by decide))) (by decide))) (by decide))) (by decide))) (by decide))) (by decide)) (by decide)) (by decide)))) (by decide)))) (by decide)))) (by decide))
set_option maxRecDepth 20000 in
theorem ni_Labels_14 (l : Launch) (G : zG) (M : zM) (R : zR) : nC l G 2 17 585 yX1_init cX1_init 4 [.ref 14, .ref 1, .ref 5] (zLX.take 15) M R (zLX.take 32) (mi_Labels_14 M) (ri_Labels_14 R) := by
  refine nC.of (by decide) rfl (Nat.le_of_ble_eq_true rfl) ?_
  refine n_aload_n (pc := 0) dX1_init_0 rfl ?_
  refine n_obj (pc := 1) tw_222 (by decide) rfl dX1_init_1 ?_
  refine n_aload_n (pc := 4) dX1_init_4 rfl ?_
  refine n_iconst (pc := 5) 3 dX1_init_5 (by decide) ?_
  refine n_newq_n (pc := 6) 15 3 rfl (by decide) tw_223 (by decide) (by decide) (by decide) (by decide) (by decide) rfl rfl dX1_init_6 ?_
  refine n_putFR (pc := 9) (q := 2) zk1 rfl rfl tw_251 rfl rfl (fun _ => ⟨rfl, rfl⟩) (by decide) dX1_init_9 ?_
  refine n_aload_n (pc := 12) dX1_init_12 rfl ?_
  refine n_iconst (pc := 13) 3 dX1_init_13 (by decide) ?_
  refine n_newa_i (pc := 14) 16 3 rfl (by decide) tw_153 (by decide) (by decide) (by decide) (by decide) (by decide) rfl rfl dX1_init_14 ?_
  refine n_putFR (pc := 16) (q := 3) zk1 rfl rfl tw_252 rfl rfl (fun _ => ⟨rfl, rfl⟩) (by decide) dX1_init_16 ?_
  refine n_aload_n (pc := 19) dX1_init_19 rfl ?_
  refine n_bipush (pc := 20) 12 dX1_init_20 (by decide) ?_
  refine n_newa_i (pc := 22) 17 12 rfl (by decide) tw_153 (by decide) (by decide) (by decide) (by decide) (by decide) rfl rfl dX1_init_22 ?_
  refine n_putFR (pc := 24) (q := 4) zk1 rfl rfl tw_253 rfl rfl (fun _ => ⟨rfl, rfl⟩) (by decide) dX1_init_24 ?_
  refine n_aload_n (pc := 27) dX1_init_27 rfl ?_
  refine n_bipush (pc := 28) 12 dX1_init_28 (by decide) ?_
  refine n_newa_i (pc := 30) 18 12 rfl (by decide) tw_153 (by decide) (by decide) (by decide) (by decide) (by decide) rfl rfl dX1_init_30 ?_
  refine n_putFR (pc := 32) (q := 5) zk1 rfl rfl tw_254 rfl rfl (fun _ => ⟨rfl, rfl⟩) (by decide) dX1_init_32 ?_
  refine n_aload_n (pc := 35) dX1_init_35 rfl ?_
  refine n_bipush (pc := 36) 12 dX1_init_36 (by decide) ?_
  refine n_newa_i (pc := 38) 19 12 rfl (by decide) tw_153 (by decide) (by decide) (by decide) (by decide) (by decide) rfl rfl dX1_init_38 ?_
  refine n_putFR (pc := 40) (q := 6) zk1 rfl rfl tw_255 rfl rfl (fun _ => ⟨rfl, rfl⟩) (by decide) dX1_init_40 ?_
  refine n_aload_n (pc := 43) dX1_init_43 rfl ?_
  refine n_bipush (pc := 44) 12 dX1_init_44 (by decide) ?_
  refine n_newa_i (pc := 46) 20 12 rfl (by decide) tw_153 (by decide) (by decide) (by decide) (by decide) (by decide) rfl rfl dX1_init_46 ?_
  refine n_putFR (pc := 48) (q := 7) zk1 rfl rfl tw_256 rfl rfl (fun _ => ⟨rfl, rfl⟩) (by decide) dX1_init_48 ?_
  refine n_aload_n (pc := 51) dX1_init_51 rfl ?_
  refine n_bipush (pc := 52) 12 dX1_init_52 (by decide) ?_
  refine n_newa_i (pc := 54) 21 12 rfl (by decide) tw_153 (by decide) (by decide) (by decide) (by decide) (by decide) rfl rfl dX1_init_54 ?_
  refine n_putFR (pc := 56) (q := 8) zk1 rfl rfl tw_257 rfl rfl (fun _ => ⟨rfl, rfl⟩) (by decide) dX1_init_56 ?_
  refine n_aload_n (pc := 59) dX1_init_59 rfl ?_
  refine n_bipush (pc := 60) 12 dX1_init_60 (by decide) ?_
  refine n_newa_i (pc := 62) 22 12 rfl (by decide) tw_153 (by decide) (by decide) (by decide) (by decide) (by decide) rfl rfl dX1_init_62 ?_
  refine n_putFR (pc := 64) (q := 9) zk1 rfl rfl tw_258 rfl rfl (fun _ => ⟨rfl, rfl⟩) (by decide) dX1_init_64 ?_
  refine n_aload_n (pc := 67) dX1_init_67 rfl ?_
  refine n_aload_n (pc := 68) dX1_init_68 rfl ?_
  refine n_putFR (pc := 69) (q := 0) zk1 rfl rfl tw_249 rfl rfl (fun _ => ⟨rfl, rfl⟩) (by decide) dX1_init_69 ?_
  refine n_aload_n (pc := 72) dX1_init_72 rfl ?_
  refine n_aload_n (pc := 73) dX1_init_73 rfl ?_
  refine n_putFR (pc := 74) (q := 1) zk1 rfl rfl tw_250 rfl rfl (fun _ => ⟨rfl, rfl⟩) (by decide) dX1_init_74 ?_
  refine n_iconst (pc := 77) 0 dX1_init_77 (by decide) ?_
  refine n_istore_n (pc := 78) dX1_init_78 (by decide) ?_
  refine n_iload_n (pc := 79) dX1_init_79 rfl ?_
  refine n_iconst (pc := 80) 3 dX1_init_80 (by decide) ?_
  refine n_icmp_ge_f (pc := 81) 111 dX1_init_81 (by decide) (by decide) ?_
  refine n_aload_n (pc := 84) dX1_init_84 rfl ?_
  refine n_getR (pc := 85) (q := 2) zk1 rfl rfl rfl tw_251 dX1_init_85 ?_
  refine n_iload_n (pc := 88) dX1_init_88 rfl ?_
  refine n_new (pc := 89) 23 zk2 rfl (by decide) tw_223 tw_225 tw_85 (by decide) (by decide) (by decide) rfl rfl dX1_init_89 ?_
  refine n_dup (pc := 92) dX1_init_92 rfl ?_
  refine n_iload_n (pc := 93) dX1_init_93 rfl ?_
  refine n_callI (pc := 94) (As := [.int 0]) (ni_Names_23 l G (zmn (zmn (zmn (zmn (zmn (zmn (zmn (zmn (zmn M 15) 16) 17) 18) 19) 20) 21) 22) 23) (zrn (zrs (zrs (zrs (zrn (zrs (zrn (zrs (zrn (zrs (zrn (zrs (zrn (zrs (zrn (zrs (zrn (zrs (zrn R 15) 14 2 15) 16) 14 3 16) 17) 14 4 17) 18) 14 5 18) 19) 14 6 19) 20) 14 7 20) 21) 14 8 21) 22) 14 9 22) 14 0 1) 14 1 5) 23)) zb_X2_init rfl tw_227 tw_226 (by decide) (Nat.le_of_ble_eq_true rfl) (by decide) rfl rfl (by decide) (by decide) (fun h => nw_Names_23 h) dX1_init_94 ?_
  refine n_naast (pc := 97) 0 rfl rfl (by decide) (by decide) dX1_init_97 ?_
  refine n_aload_n (pc := 98) dX1_init_98 rfl ?_
  refine n_getR (pc := 99) (q := 3) zk1 rfl rfl rfl tw_252 dX1_init_99 ?_
  refine n_iload_n (pc := 102) dX1_init_102 rfl ?_
  refine n_iconst (pc := 103) (-1) dX1_init_103 (by decide) ?_
  refine n_iast (pc := 104) 0 rfl (by decide) (by decide) dX1_init_104 ?_
  refine n_iinc (pc := 105) 1 dX1_init_105 rfl (by decide) (by decide) ?_
  refine n_goto (pc := 108) 79 dX1_init_108 (by decide) ?_
  refine n_iload_n (pc := 79) dX1_init_79 rfl ?_
  refine n_iconst (pc := 80) 3 dX1_init_80 (by decide) ?_
  refine n_icmp_ge_f (pc := 81) 111 dX1_init_81 (by decide) (by decide) ?_
  refine n_aload_n (pc := 84) dX1_init_84 rfl ?_
  refine n_getR (pc := 85) (q := 2) zk1 rfl rfl rfl tw_251 dX1_init_85 ?_
  refine n_iload_n (pc := 88) dX1_init_88 rfl ?_
  refine n_new (pc := 89) 26 zk2 rfl (by decide) tw_223 tw_225 tw_85 (by decide) (by decide) (by decide) rfl rfl dX1_init_89 ?_
  refine n_dup (pc := 92) dX1_init_92 rfl ?_
  refine n_iload_n (pc := 93) dX1_init_93 rfl ?_
  refine n_callI (pc := 94) (As := [.int 1]) (ni_Names_26 l G (zmn (zs (mi_Names_23 (zmn (zmn (zmn (zmn (zmn (zmn (zmn (zmn (zmn M 15) 16) 17) 18) 19) 20) 21) 22) 23)) 16 0 (-1)) 26) (zrn (zrs (ri_Names_23 (zrn (zrs (zrs (zrs (zrn (zrs (zrn (zrs (zrn (zrs (zrn (zrs (zrn (zrs (zrn (zrs (zrn (zrs (zrn R 15) 14 2 15) 16) 14 3 16) 17) 14 4 17) 18) 14 5 18) 19) 14 6 19) 20) 14 7 20) 21) 14 8 21) 22) 14 9 22) 14 0 1) 14 1 5) 23)) 15 0 23) 26)) zb_X2_init rfl tw_227 tw_226 (by decide) (Nat.le_of_ble_eq_true rfl) (by decide) rfl rfl (by decide) (by decide) (fun h => nw_Names_26 h) dX1_init_94 ?_
  refine n_naast (pc := 97) 1 rfl rfl (by decide) (by decide) dX1_init_97 ?_
  refine n_aload_n (pc := 98) dX1_init_98 rfl ?_
  refine n_getR (pc := 99) (q := 3) zk1 rfl rfl rfl tw_252 dX1_init_99 ?_
  refine n_iload_n (pc := 102) dX1_init_102 rfl ?_
  refine n_iconst (pc := 103) (-1) dX1_init_103 (by decide) ?_
  refine n_iast (pc := 104) 1 rfl (by decide) (by decide) dX1_init_104 ?_
  refine n_iinc (pc := 105) 2 dX1_init_105 rfl (by decide) (by decide) ?_
  refine n_goto (pc := 108) 79 dX1_init_108 (by decide) ?_
  refine n_iload_n (pc := 79) dX1_init_79 rfl ?_
  refine n_iconst (pc := 80) 3 dX1_init_80 (by decide) ?_
  refine n_icmp_ge_f (pc := 81) 111 dX1_init_81 (by decide) (by decide) ?_
  refine n_aload_n (pc := 84) dX1_init_84 rfl ?_
  refine n_getR (pc := 85) (q := 2) zk1 rfl rfl rfl tw_251 dX1_init_85 ?_
  refine n_iload_n (pc := 88) dX1_init_88 rfl ?_
  refine n_new (pc := 89) 29 zk2 rfl (by decide) tw_223 tw_225 tw_85 (by decide) (by decide) (by decide) rfl rfl dX1_init_89 ?_
  refine n_dup (pc := 92) dX1_init_92 rfl ?_
  refine n_iload_n (pc := 93) dX1_init_93 rfl ?_
  refine n_callI (pc := 94) (As := [.int 2]) (ni_Names_29 l G (zmn (zs (mi_Names_26 (zmn (zs (mi_Names_23 (zmn (zmn (zmn (zmn (zmn (zmn (zmn (zmn (zmn M 15) 16) 17) 18) 19) 20) 21) 22) 23)) 16 0 (-1)) 26)) 16 1 (-1)) 29) (zrn (zrs (ri_Names_26 (zrn (zrs (ri_Names_23 (zrn (zrs (zrs (zrs (zrn (zrs (zrn (zrs (zrn (zrs (zrn (zrs (zrn (zrs (zrn (zrs (zrn (zrs (zrn R 15) 14 2 15) 16) 14 3 16) 17) 14 4 17) 18) 14 5 18) 19) 14 6 19) 20) 14 7 20) 21) 14 8 21) 22) 14 9 22) 14 0 1) 14 1 5) 23)) 15 0 23) 26)) 15 1 26) 29)) zb_X2_init rfl tw_227 tw_226 (by decide) (Nat.le_of_ble_eq_true rfl) (by decide) rfl rfl (by decide) (by decide) (fun h => nw_Names_29 h) dX1_init_94 ?_
  refine n_naast (pc := 97) 2 rfl rfl (by decide) (by decide) dX1_init_97 ?_
  refine n_aload_n (pc := 98) dX1_init_98 rfl ?_
  refine n_getR (pc := 99) (q := 3) zk1 rfl rfl rfl tw_252 dX1_init_99 ?_
  refine n_iload_n (pc := 102) dX1_init_102 rfl ?_
  refine n_iconst (pc := 103) (-1) dX1_init_103 (by decide) ?_
  refine n_iast (pc := 104) 2 rfl (by decide) (by decide) dX1_init_104 ?_
  refine n_iinc (pc := 105) 3 dX1_init_105 rfl (by decide) (by decide) ?_
  refine n_goto (pc := 108) 79 dX1_init_108 (by decide) ?_
  refine n_iload_n (pc := 79) dX1_init_79 rfl ?_
  refine n_iconst (pc := 80) 3 dX1_init_80 (by decide) ?_
  refine n_icmp_ge_t (pc := 81) 111 dX1_init_81 (by decide) (by decide) ?_
  exact n_vret (pc := 111) dX1_init_111 (by decide) (by decide) rfl rfl rfl
theorem dX4_init_0 : decode cX4_init 0 = .ok (.aload_n 0, 1) := by decide +kernel
theorem dX4_init_1 : decode cX4_init 1 = .ok (.invokespecial 3, 3) := by decide +kernel
theorem dX4_init_4 : decode cX4_init 4 = .ok (.aload_n 0, 1) := by decide +kernel
theorem dX4_init_5 : decode cX4_init 5 = .ok (.iconst 0, 1) := by decide +kernel
theorem dX4_init_6 : decode cX4_init 6 = .ok (.putfield 9, 3) := by decide +kernel
theorem dX4_init_9 : decode cX4_init 9 = .ok (.aload_n 0, 1) := by decide +kernel
theorem dX4_init_10 : decode cX4_init 10 = .ok (.bipush 12, 2) := by decide +kernel
theorem dX4_init_12 : decode cX4_init 12 = .ok (.newarray .int, 2) := by decide +kernel
theorem dX4_init_14 : decode cX4_init 14 = .ok (.putfield 15, 3) := by decide +kernel
theorem dX4_init_17 : decode cX4_init 17 = .ok (.aload_n 0, 1) := by decide +kernel
theorem dX4_init_18 : decode cX4_init 18 = .ok (.new 19, 3) := by decide +kernel
theorem dX4_init_21 : decode cX4_init 21 = .ok (.dup, 1) := by decide +kernel
theorem dX4_init_22 : decode cX4_init 22 = .ok (.iload_n 1, 1) := by decide +kernel
theorem dX4_init_23 : decode cX4_init 23 = .ok (.invokespecial 21, 3) := by decide +kernel
theorem dX4_init_26 : decode cX4_init 26 = .ok (.putfield 24, 3) := by decide +kernel
theorem dX4_init_29 : decode cX4_init 29 = .ok (.return_, 1) := by decide +kernel
theorem zb_X4_init : zcB yX4_init cX4_init 2 none 1 := ⟨tw_86, tw_285, by decide +kernel⟩
def mi_Names_35 (M : zM) : zM := (zmn (zs (zs (zmn (zs M 35 2 0) 36) 35 0 0) 35 1 2) 37)
def ri_Names_35 (R : zR) : zR := (zrs (zrn (zrs (zrn R 36) 35 3 36) 37) 35 4 37)
theorem nw_Names_35 {R : zR} (h : nW 36 R) : nW 38 (ri_Names_35 R) := (nW_set (nW_new (nW_set (nW_new h) (by decide))) (by decide))
set_option maxRecDepth 20000 in
theorem ni_Names_35 (l : Launch) (G : zG) (M : zM) (R : zR) : nC l G 1 2 36 yX2_init cX2_init 2 [.ref 35, .int 0] (zLX.take 36) M R (zLX.take 38) (mi_Names_35 M) (ri_Names_35 R) := by
  refine nC.of (by decide) rfl (Nat.le_of_ble_eq_true rfl) ?_
  refine n_aload_n (pc := 0) dX2_init_0 rfl ?_
  refine n_obj (pc := 1) tw_229 (by decide) rfl dX2_init_1 ?_
  refine n_aload_n (pc := 4) dX2_init_4 rfl ?_
  refine n_iconst (pc := 5) 0 dX2_init_5 (by decide) ?_
  refine n_putI (pc := 6) (q := 2) zk2 rfl rfl tw_232 rfl rfl rfl dX2_init_6 ?_
  refine n_aload_n (pc := 9) dX2_init_9 rfl ?_
  refine n_bipush (pc := 10) 12 dX2_init_10 (by decide) ?_
  refine n_newa_i (pc := 12) 36 12 rfl (by decide) tw_153 (by decide) (by decide) (by decide) (by decide) (by decide) rfl rfl dX2_init_12 ?_
  refine n_putFR (pc := 14) (q := 3) zk2 rfl rfl tw_234 rfl rfl (fun _ => ⟨rfl, rfl⟩) (by decide) dX2_init_14 ?_
  refine n_aload_n (pc := 17) dX2_init_17 rfl ?_
  refine n_iload_n (pc := 18) dX2_init_18 rfl ?_
  refine n_putFI (pc := 19) (q := 0) zk2 rfl rfl tw_230 rfl rfl rfl rfl dX2_init_19 ?_
  refine n_aload_n (pc := 22) dX2_init_22 rfl ?_
  refine n_iload_n (pc := 23) dX2_init_23 rfl ?_
  refine n_if_ne_f (pc := 24) 31 dX2_init_24 (by decide) (by decide) ?_
  refine n_iconst (pc := 27) 2 dX2_init_27 (by decide) ?_
  refine n_goto (pc := 28) 43 dX2_init_28 (by decide) ?_
  refine n_putFI (pc := 43) (q := 1) zk2 rfl rfl tw_231 rfl rfl rfl rfl dX2_init_43 ?_
  refine n_aload_n (pc := 46) dX2_init_46 rfl ?_
  refine n_bipush (pc := 47) 12 dX2_init_47 (by decide) ?_
  refine n_aload_n (pc := 49) dX2_init_49 rfl ?_
  refine n_getI (pc := 50) (q := 1) 2 zk2 rfl rfl tw_231 rfl dX2_init_50 ?_
  refine n_imul (pc := 53) 24 dX2_init_53 (by decide) ?_
  refine n_newa_i (pc := 54) 37 24 rfl (by decide) tw_153 (by decide) (by decide) (by decide) (by decide) (by decide) rfl rfl dX2_init_54 ?_
  refine n_putFR (pc := 56) (q := 4) zk2 rfl rfl tw_237 rfl rfl (fun _ => ⟨rfl, rfl⟩) (by decide) dX2_init_56 ?_
  exact n_vret (pc := 59) dX2_init_59 (by decide) (by decide) rfl rfl rfl
def mi_Page_33 (M : zM) : zM := (mi_Names_35 (zmn (zmn (zs M 33 0 0) 34) 35))
def ri_Page_33 (R : zR) : zR := (zrs (ri_Names_35 (zrn (zrs (zrn R 34) 33 2 34) 35)) 33 1 35)
theorem nw_Page_33 {R : zR} (h : nW 34 R) : nW 38 (ri_Page_33 R) := (nW_set (nw_Names_35 (nW_new (nW_set (nW_new h) (by decide)))) (by decide))
set_option maxRecDepth 20000 in
theorem ni_Page_33 (l : Launch) (G : zG) (M : zM) (R : zR) : nC l G 2 4 53 yX4_init cX4_init 2 [.ref 33, .int 0] (zLX.take 34) M R (zLX.take 38) (mi_Page_33 M) (ri_Page_33 R) := by
  refine nC.of (by decide) rfl (Nat.le_of_ble_eq_true rfl) ?_
  refine n_aload_n (pc := 0) dX4_init_0 rfl ?_
  refine n_obj (pc := 1) tw_286 (by decide) rfl dX4_init_1 ?_
  refine n_aload_n (pc := 4) dX4_init_4 rfl ?_
  refine n_iconst (pc := 5) 0 dX4_init_5 (by decide) ?_
  refine n_putI (pc := 6) (q := 0) zk4 rfl rfl tw_289 rfl (by decide) (by decide) dX4_init_6 ?_
  refine n_aload_n (pc := 9) dX4_init_9 rfl ?_
  refine n_bipush (pc := 10) 12 dX4_init_10 (by decide) ?_
  refine n_newa_i (pc := 12) 34 12 rfl (by decide) tw_153 (by decide) (by decide) (by decide) (by decide) (by decide) rfl rfl dX4_init_12 ?_
  refine n_putFR (pc := 14) (q := 2) zk4 rfl rfl tw_293 rfl rfl (fun _ => ⟨rfl, rfl⟩) (by decide) dX4_init_14 ?_
  refine n_aload_n (pc := 17) dX4_init_17 rfl ?_
  refine n_new (pc := 18) 35 zk2 rfl (by decide) tw_287 tw_225 tw_85 (by decide) (by decide) (by decide) rfl rfl dX4_init_18 ?_
  refine n_dup (pc := 21) dX4_init_21 rfl ?_
  refine n_iload_n (pc := 22) dX4_init_22 rfl ?_
  refine n_callI (pc := 23) (As := [.int 0]) (ni_Names_35 l G (zmn (zmn (zs M 33 0 0) 34) 35) (zrn (zrs (zrn R 34) 33 2 34) 35)) zb_X2_init rfl tw_227 tw_288 (by decide) (Nat.le_of_ble_eq_true rfl) (by decide) rfl rfl (by decide) (by decide) (fun h => nw_Names_35 h) dX4_init_23 ?_
  refine n_putFR (pc := 26) (q := 1) zk4 rfl rfl tw_291 rfl rfl (fun _ => ⟨rfl, rfl⟩) (by decide) dX4_init_26 ?_
  exact n_vret (pc := 29) dX4_init_29 (by decide) (by decide) rfl rfl rfl
def mi_Names_40 (M : zM) : zM := (zmn (zs (zs (zmn (zs M 40 2 0) 41) 40 0 1) 40 1 12) 42)
def ri_Names_40 (R : zR) : zR := (zrs (zrn (zrs (zrn R 41) 40 3 41) 42) 40 4 42)
theorem nw_Names_40 {R : zR} (h : nW 41 R) : nW 43 (ri_Names_40 R) := (nW_set (nW_new (nW_set (nW_new h) (by decide))) (by decide))
set_option maxRecDepth 20000 in
theorem ni_Names_40 (l : Launch) (G : zG) (M : zM) (R : zR) : nC l G 1 2 156 yX2_init cX2_init 2 [.ref 40, .int 1] (zLX.take 41) M R (zLX.take 43) (mi_Names_40 M) (ri_Names_40 R) := by
  refine nC.of (by decide) rfl (Nat.le_of_ble_eq_true rfl) ?_
  refine n_aload_n (pc := 0) dX2_init_0 rfl ?_
  refine n_obj (pc := 1) tw_229 (by decide) rfl dX2_init_1 ?_
  refine n_aload_n (pc := 4) dX2_init_4 rfl ?_
  refine n_iconst (pc := 5) 0 dX2_init_5 (by decide) ?_
  refine n_putI (pc := 6) (q := 2) zk2 rfl rfl tw_232 rfl rfl rfl dX2_init_6 ?_
  refine n_aload_n (pc := 9) dX2_init_9 rfl ?_
  refine n_bipush (pc := 10) 12 dX2_init_10 (by decide) ?_
  refine n_newa_i (pc := 12) 41 12 rfl (by decide) tw_153 (by decide) (by decide) (by decide) (by decide) (by decide) rfl rfl dX2_init_12 ?_
  refine n_putFR (pc := 14) (q := 3) zk2 rfl rfl tw_234 rfl rfl (fun _ => ⟨rfl, rfl⟩) (by decide) dX2_init_14 ?_
  refine n_aload_n (pc := 17) dX2_init_17 rfl ?_
  refine n_iload_n (pc := 18) dX2_init_18 rfl ?_
  refine n_putFI (pc := 19) (q := 0) zk2 rfl rfl tw_230 rfl rfl rfl rfl dX2_init_19 ?_
  refine n_aload_n (pc := 22) dX2_init_22 rfl ?_
  refine n_iload_n (pc := 23) dX2_init_23 rfl ?_
  refine n_if_ne_t (pc := 24) 31 dX2_init_24 (by decide) (by decide) ?_
  refine n_iload_n (pc := 31) dX2_init_31 rfl ?_
  refine n_iconst (pc := 32) 1 dX2_init_32 (by decide) ?_
  refine n_icmp_ne_f (pc := 33) 41 dX2_init_33 (by decide) (by decide) ?_
  refine n_bipush (pc := 36) 12 dX2_init_36 (by decide) ?_
  refine n_goto (pc := 38) 43 dX2_init_38 (by decide) ?_
  refine n_putFI (pc := 43) (q := 1) zk2 rfl rfl tw_231 rfl rfl rfl rfl dX2_init_43 ?_
  refine n_aload_n (pc := 46) dX2_init_46 rfl ?_
  refine n_bipush (pc := 47) 12 dX2_init_47 (by decide) ?_
  refine n_aload_n (pc := 49) dX2_init_49 rfl ?_
  refine n_getI (pc := 50) (q := 1) 12 zk2 rfl rfl tw_231 rfl dX2_init_50 ?_
  refine n_imul (pc := 53) 144 dX2_init_53 (by decide) ?_
  refine n_newa_i (pc := 54) 42 144 rfl (by decide) tw_153 (by decide) (by decide) (by decide) (by decide) (by decide) rfl rfl dX2_init_54 ?_
  refine n_putFR (pc := 56) (q := 4) zk2 rfl rfl tw_237 rfl rfl (fun _ => ⟨rfl, rfl⟩) (by decide) dX2_init_56 ?_
  exact n_vret (pc := 59) dX2_init_59 (by decide) (by decide) rfl rfl rfl
def mi_Page_38 (M : zM) : zM := (mi_Names_40 (zmn (zmn (zs M 38 0 0) 39) 40))
def ri_Page_38 (R : zR) : zR := (zrs (ri_Names_40 (zrn (zrs (zrn R 39) 38 2 39) 40)) 38 1 40)
theorem nw_Page_38 {R : zR} (h : nW 39 R) : nW 43 (ri_Page_38 R) := (nW_set (nw_Names_40 (nW_new (nW_set (nW_new h) (by decide)))) (by decide))
set_option maxRecDepth 20000 in
theorem ni_Page_38 (l : Launch) (G : zG) (M : zM) (R : zR) : nC l G 2 4 173 yX4_init cX4_init 2 [.ref 38, .int 1] (zLX.take 39) M R (zLX.take 43) (mi_Page_38 M) (ri_Page_38 R) := by
  refine nC.of (by decide) rfl (Nat.le_of_ble_eq_true rfl) ?_
  refine n_aload_n (pc := 0) dX4_init_0 rfl ?_
  refine n_obj (pc := 1) tw_286 (by decide) rfl dX4_init_1 ?_
  refine n_aload_n (pc := 4) dX4_init_4 rfl ?_
  refine n_iconst (pc := 5) 0 dX4_init_5 (by decide) ?_
  refine n_putI (pc := 6) (q := 0) zk4 rfl rfl tw_289 rfl (by decide) (by decide) dX4_init_6 ?_
  refine n_aload_n (pc := 9) dX4_init_9 rfl ?_
  refine n_bipush (pc := 10) 12 dX4_init_10 (by decide) ?_
  refine n_newa_i (pc := 12) 39 12 rfl (by decide) tw_153 (by decide) (by decide) (by decide) (by decide) (by decide) rfl rfl dX4_init_12 ?_
  refine n_putFR (pc := 14) (q := 2) zk4 rfl rfl tw_293 rfl rfl (fun _ => ⟨rfl, rfl⟩) (by decide) dX4_init_14 ?_
  refine n_aload_n (pc := 17) dX4_init_17 rfl ?_
  refine n_new (pc := 18) 40 zk2 rfl (by decide) tw_287 tw_225 tw_85 (by decide) (by decide) (by decide) rfl rfl dX4_init_18 ?_
  refine n_dup (pc := 21) dX4_init_21 rfl ?_
  refine n_iload_n (pc := 22) dX4_init_22 rfl ?_
  refine n_callI (pc := 23) (As := [.int 1]) (ni_Names_40 l G (zmn (zmn (zs M 38 0 0) 39) 40) (zrn (zrs (zrn R 39) 38 2 39) 40)) zb_X2_init rfl tw_227 tw_288 (by decide) (Nat.le_of_ble_eq_true rfl) (by decide) rfl rfl (by decide) (by decide) (fun h => nw_Names_40 h) dX4_init_23 ?_
  refine n_putFR (pc := 26) (q := 1) zk4 rfl rfl tw_291 rfl rfl (fun _ => ⟨rfl, rfl⟩) (by decide) dX4_init_26 ?_
  exact n_vret (pc := 29) dX4_init_29 (by decide) (by decide) rfl rfl rfl
def mi_Names_45 (M : zM) : zM := (zmn (zs (zs (zmn (zs M 45 2 0) 46) 45 0 2) 45 1 24) 47)
def ri_Names_45 (R : zR) : zR := (zrs (zrn (zrs (zrn R 46) 45 3 46) 47) 45 4 47)
theorem nw_Names_45 {R : zR} (h : nW 46 R) : nW 48 (ri_Names_45 R) := (nW_set (nW_new (nW_set (nW_new h) (by decide))) (by decide))
set_option maxRecDepth 20000 in
theorem ni_Names_45 (l : Launch) (G : zG) (M : zM) (R : zR) : nC l G 1 2 300 yX2_init cX2_init 2 [.ref 45, .int 2] (zLX.take 46) M R (zLX.take 48) (mi_Names_45 M) (ri_Names_45 R) := by
  refine nC.of (by decide) rfl (Nat.le_of_ble_eq_true rfl) ?_
  refine n_aload_n (pc := 0) dX2_init_0 rfl ?_
  refine n_obj (pc := 1) tw_229 (by decide) rfl dX2_init_1 ?_
  refine n_aload_n (pc := 4) dX2_init_4 rfl ?_
  refine n_iconst (pc := 5) 0 dX2_init_5 (by decide) ?_
  refine n_putI (pc := 6) (q := 2) zk2 rfl rfl tw_232 rfl rfl rfl dX2_init_6 ?_
  refine n_aload_n (pc := 9) dX2_init_9 rfl ?_
  refine n_bipush (pc := 10) 12 dX2_init_10 (by decide) ?_
  refine n_newa_i (pc := 12) 46 12 rfl (by decide) tw_153 (by decide) (by decide) (by decide) (by decide) (by decide) rfl rfl dX2_init_12 ?_
  refine n_putFR (pc := 14) (q := 3) zk2 rfl rfl tw_234 rfl rfl (fun _ => ⟨rfl, rfl⟩) (by decide) dX2_init_14 ?_
  refine n_aload_n (pc := 17) dX2_init_17 rfl ?_
  refine n_iload_n (pc := 18) dX2_init_18 rfl ?_
  refine n_putFI (pc := 19) (q := 0) zk2 rfl rfl tw_230 rfl rfl rfl rfl dX2_init_19 ?_
  refine n_aload_n (pc := 22) dX2_init_22 rfl ?_
  refine n_iload_n (pc := 23) dX2_init_23 rfl ?_
  refine n_if_ne_t (pc := 24) 31 dX2_init_24 (by decide) (by decide) ?_
  refine n_iload_n (pc := 31) dX2_init_31 rfl ?_
  refine n_iconst (pc := 32) 1 dX2_init_32 (by decide) ?_
  refine n_icmp_ne_t (pc := 33) 41 dX2_init_33 (by decide) (by decide) ?_
  refine n_bipush (pc := 41) 24 dX2_init_41 (by decide) ?_
  refine n_putFI (pc := 43) (q := 1) zk2 rfl rfl tw_231 rfl rfl rfl rfl dX2_init_43 ?_
  refine n_aload_n (pc := 46) dX2_init_46 rfl ?_
  refine n_bipush (pc := 47) 12 dX2_init_47 (by decide) ?_
  refine n_aload_n (pc := 49) dX2_init_49 rfl ?_
  refine n_getI (pc := 50) (q := 1) 24 zk2 rfl rfl tw_231 rfl dX2_init_50 ?_
  refine n_imul (pc := 53) 288 dX2_init_53 (by decide) ?_
  refine n_newa_i (pc := 54) 47 288 rfl (by decide) tw_153 (by decide) (by decide) (by decide) (by decide) (by decide) rfl rfl dX2_init_54 ?_
  refine n_putFR (pc := 56) (q := 4) zk2 rfl rfl tw_237 rfl rfl (fun _ => ⟨rfl, rfl⟩) (by decide) dX2_init_56 ?_
  exact n_vret (pc := 59) dX2_init_59 (by decide) (by decide) rfl rfl rfl
def mi_Page_43 (M : zM) : zM := (mi_Names_45 (zmn (zmn (zs M 43 0 0) 44) 45))
def ri_Page_43 (R : zR) : zR := (zrs (ri_Names_45 (zrn (zrs (zrn R 44) 43 2 44) 45)) 43 1 45)
theorem nw_Page_43 {R : zR} (h : nW 44 R) : nW 48 (ri_Page_43 R) := (nW_set (nw_Names_45 (nW_new (nW_set (nW_new h) (by decide)))) (by decide))
set_option maxRecDepth 20000 in
theorem ni_Page_43 (l : Launch) (G : zG) (M : zM) (R : zR) : nC l G 2 4 317 yX4_init cX4_init 2 [.ref 43, .int 2] (zLX.take 44) M R (zLX.take 48) (mi_Page_43 M) (ri_Page_43 R) := by
  refine nC.of (by decide) rfl (Nat.le_of_ble_eq_true rfl) ?_
  refine n_aload_n (pc := 0) dX4_init_0 rfl ?_
  refine n_obj (pc := 1) tw_286 (by decide) rfl dX4_init_1 ?_
  refine n_aload_n (pc := 4) dX4_init_4 rfl ?_
  refine n_iconst (pc := 5) 0 dX4_init_5 (by decide) ?_
  refine n_putI (pc := 6) (q := 0) zk4 rfl rfl tw_289 rfl (by decide) (by decide) dX4_init_6 ?_
  refine n_aload_n (pc := 9) dX4_init_9 rfl ?_
  refine n_bipush (pc := 10) 12 dX4_init_10 (by decide) ?_
  refine n_newa_i (pc := 12) 44 12 rfl (by decide) tw_153 (by decide) (by decide) (by decide) (by decide) (by decide) rfl rfl dX4_init_12 ?_
  refine n_putFR (pc := 14) (q := 2) zk4 rfl rfl tw_293 rfl rfl (fun _ => ⟨rfl, rfl⟩) (by decide) dX4_init_14 ?_
  refine n_aload_n (pc := 17) dX4_init_17 rfl ?_
  refine n_new (pc := 18) 45 zk2 rfl (by decide) tw_287 tw_225 tw_85 (by decide) (by decide) (by decide) rfl rfl dX4_init_18 ?_
  refine n_dup (pc := 21) dX4_init_21 rfl ?_
  refine n_iload_n (pc := 22) dX4_init_22 rfl ?_
  refine n_callI (pc := 23) (As := [.int 2]) (ni_Names_45 l G (zmn (zmn (zs M 43 0 0) 44) 45) (zrn (zrs (zrn R 44) 43 2 44) 45)) zb_X2_init rfl tw_227 tw_288 (by decide) (Nat.le_of_ble_eq_true rfl) (by decide) rfl rfl (by decide) (by decide) (fun h => nw_Names_45 h) dX4_init_23 ?_
  refine n_putFR (pc := 26) (q := 1) zk4 rfl rfl tw_291 rfl rfl (fun _ => ⟨rfl, rfl⟩) (by decide) dX4_init_26 ?_
  exact n_vret (pc := 29) dX4_init_29 (by decide) (by decide) rfl rfl rfl
theorem dX5_init_0 : decode cX5_init 0 = .ok (.aload_n 0, 1) := by decide +kernel
theorem dX5_init_1 : decode cX5_init 1 = .ok (.invokespecial 3, 3) := by decide +kernel
theorem dX5_init_4 : decode cX5_init 4 = .ok (.aload_n 0, 1) := by decide +kernel
theorem dX5_init_5 : decode cX5_init 5 = .ok (.iconst 0, 1) := by decide +kernel
theorem dX5_init_6 : decode cX5_init 6 = .ok (.putfield 9, 3) := by decide +kernel
theorem dX5_init_9 : decode cX5_init 9 = .ok (.aload_n 0, 1) := by decide +kernel
theorem dX5_init_10 : decode cX5_init 10 = .ok (.iconst 1, 1) := by decide +kernel
theorem dX5_init_11 : decode cX5_init 11 = .ok (.putfield 15, 3) := by decide +kernel
theorem dX5_init_14 : decode cX5_init 14 = .ok (.aload_n 0, 1) := by decide +kernel
theorem dX5_init_15 : decode cX5_init 15 = .ok (.iconst (-1), 1) := by decide +kernel
theorem dX5_init_16 : decode cX5_init 16 = .ok (.putfield 18, 3) := by decide +kernel
theorem dX5_init_19 : decode cX5_init 19 = .ok (.aload_n 0, 1) := by decide +kernel
theorem dX5_init_20 : decode cX5_init 20 = .ok (.iconst (-1), 1) := by decide +kernel
theorem dX5_init_21 : decode cX5_init 21 = .ok (.putfield 21, 3) := by decide +kernel
theorem dX5_init_24 : decode cX5_init 24 = .ok (.aload_n 0, 1) := by decide +kernel
theorem dX5_init_25 : decode cX5_init 25 = .ok (.iconst (-1), 1) := by decide +kernel
theorem dX5_init_26 : decode cX5_init 26 = .ok (.putfield 24, 3) := by decide +kernel
theorem dX5_init_29 : decode cX5_init 29 = .ok (.aload_n 0, 1) := by decide +kernel
theorem dX5_init_30 : decode cX5_init 30 = .ok (.aload_n 1, 1) := by decide +kernel
theorem dX5_init_31 : decode cX5_init 31 = .ok (.putfield 27, 3) := by decide +kernel
theorem dX5_init_34 : decode cX5_init 34 = .ok (.aload_n 0, 1) := by decide +kernel
theorem dX5_init_35 : decode cX5_init 35 = .ok (.aload_n 2, 1) := by decide +kernel
theorem dX5_init_36 : decode cX5_init 36 = .ok (.putfield 31, 3) := by decide +kernel
theorem dX5_init_39 : decode cX5_init 39 = .ok (.aload_n 0, 1) := by decide +kernel
theorem dX5_init_40 : decode cX5_init 40 = .ok (.aload_n 3, 1) := by decide +kernel
theorem dX5_init_41 : decode cX5_init 41 = .ok (.putfield 35, 3) := by decide +kernel
theorem dX5_init_44 : decode cX5_init 44 = .ok (.return_, 1) := by decide +kernel
theorem zb_X5_init : zcB yX5_init cX5_init 4 none 3 := ⟨tw_87, tw_306, by decide +kernel⟩
def mi_Parcels_48 (M : zM) : zM := (zs (zs (zs (zs (zs M 48 3 0) 48 4 1) 48 5 (-1)) 48 6 (-1)) 48 7 (-1))
def ri_Parcels_48 (R : zR) : zR := (zrs (zrs (zrs R 48 0 1) 48 1 5) 48 2 14)
theorem nw_Parcels_48 {R : zR} (h : nW 49 R) : nW 49 (ri_Parcels_48 R) := (nW_set (nW_set (nW_set h (by decide)) (by decide)) (by decide))
set_option maxRecDepth 20000 in
theorem ni_Parcels_48 (l : Launch) (G : zG) (M : zM) (R : zR) : nC l G 1 0 0 yX5_init cX5_init 4 [.ref 48, .ref 1, .ref 5, .ref 14] (zLX.take 49) M R (zLX.take 49) (mi_Parcels_48 M) (ri_Parcels_48 R) := by
  refine nC.of (by decide) rfl (Nat.le_of_ble_eq_true rfl) ?_
  refine n_aload_n (pc := 0) dX5_init_0 rfl ?_
  refine n_obj (pc := 1) tw_307 (by decide) rfl dX5_init_1 ?_
  refine n_aload_n (pc := 4) dX5_init_4 rfl ?_
  refine n_iconst (pc := 5) 0 dX5_init_5 (by decide) ?_
  refine n_putI (pc := 6) (q := 3) zk5 rfl rfl tw_311 rfl rfl rfl dX5_init_6 ?_
  refine n_aload_n (pc := 9) dX5_init_9 rfl ?_
  refine n_iconst (pc := 10) 1 dX5_init_10 (by decide) ?_
  refine n_putI (pc := 11) (q := 4) zk5 rfl rfl tw_313 rfl rfl rfl dX5_init_11 ?_
  refine n_aload_n (pc := 14) dX5_init_14 rfl ?_
  refine n_iconst (pc := 15) (-1) dX5_init_15 (by decide) ?_
  refine n_putI (pc := 16) (q := 5) zk5 rfl rfl tw_315 rfl rfl rfl dX5_init_16 ?_
  refine n_aload_n (pc := 19) dX5_init_19 rfl ?_
  refine n_iconst (pc := 20) (-1) dX5_init_20 (by decide) ?_
  refine n_putI (pc := 21) (q := 6) zk5 rfl rfl tw_317 rfl rfl rfl dX5_init_21 ?_
  refine n_aload_n (pc := 24) dX5_init_24 rfl ?_
  refine n_iconst (pc := 25) (-1) dX5_init_25 (by decide) ?_
  refine n_putI (pc := 26) (q := 7) zk5 rfl rfl tw_319 rfl rfl rfl dX5_init_26 ?_
  refine n_aload_n (pc := 29) dX5_init_29 rfl ?_
  refine n_aload_n (pc := 30) dX5_init_30 rfl ?_
  refine n_putFR (pc := 31) (q := 0) zk5 rfl rfl tw_308 rfl rfl (fun _ => ⟨rfl, rfl⟩) (by decide) dX5_init_31 ?_
  refine n_aload_n (pc := 34) dX5_init_34 rfl ?_
  refine n_aload_n (pc := 35) dX5_init_35 rfl ?_
  refine n_putFR (pc := 36) (q := 1) zk5 rfl rfl tw_309 rfl rfl (fun _ => ⟨rfl, rfl⟩) (by decide) dX5_init_36 ?_
  refine n_aload_n (pc := 39) dX5_init_39 rfl ?_
  refine n_aload_n (pc := 40) dX5_init_40 rfl ?_
  refine n_putFR (pc := 41) (q := 2) zk5 rfl rfl tw_310 rfl rfl (fun _ => ⟨rfl, rfl⟩) (by decide) dX5_init_41 ?_
  exact n_vret (pc := 44) dX5_init_44 (by decide) (by decide) rfl rfl rfl
theorem dX0_init_0 : decode cX0_init 0 = .ok (.aload_n 0, 1) := by decide +kernel
theorem dX0_init_1 : decode cX0_init 1 = .ok (.invokespecial 3, 3) := by decide +kernel
theorem dX0_init_4 : decode cX0_init 4 = .ok (.aload_n 0, 1) := by decide +kernel
theorem dX0_init_5 : decode cX0_init 5 = .ok (.bipush 12, 2) := by decide +kernel
theorem dX0_init_7 : decode cX0_init 7 = .ok (.newarray .int, 2) := by decide +kernel
theorem dX0_init_9 : decode cX0_init 9 = .ok (.putfield 9, 3) := by decide +kernel
theorem dX0_init_12 : decode cX0_init 12 = .ok (.aload_n 0, 1) := by decide +kernel
theorem dX0_init_13 : decode cX0_init 13 = .ok (.bipush 12, 2) := by decide +kernel
theorem dX0_init_15 : decode cX0_init 15 = .ok (.newarray .int, 2) := by decide +kernel
theorem dX0_init_17 : decode cX0_init 17 = .ok (.putfield 15, 3) := by decide +kernel
theorem dX0_init_20 : decode cX0_init 20 = .ok (.aload_n 0, 1) := by decide +kernel
theorem dX0_init_21 : decode cX0_init 21 = .ok (.bipush 12, 2) := by decide +kernel
theorem dX0_init_23 : decode cX0_init 23 = .ok (.newarray .int, 2) := by decide +kernel
theorem dX0_init_25 : decode cX0_init 25 = .ok (.putfield 18, 3) := by decide +kernel
theorem dX0_init_28 : decode cX0_init 28 = .ok (.aload_n 0, 1) := by decide +kernel
theorem dX0_init_29 : decode cX0_init 29 = .ok (.aload_n 1, 1) := by decide +kernel
theorem dX0_init_30 : decode cX0_init 30 = .ok (.putfield 21, 3) := by decide +kernel
theorem dX0_init_33 : decode cX0_init 33 = .ok (.aload_n 0, 1) := by decide +kernel
theorem dX0_init_34 : decode cX0_init 34 = .ok (.aload_n 2, 1) := by decide +kernel
theorem dX0_init_35 : decode cX0_init 35 = .ok (.putfield 25, 3) := by decide +kernel
theorem dX0_init_38 : decode cX0_init 38 = .ok (.return_, 1) := by decide +kernel
theorem zb_X0_init : zcB yX0_init cX0_init 3 none 2 := ⟨tw_88, tw_341, by decide +kernel⟩
def mi_Cuts_49 (M : zM) : zM := (zmn (zmn (zmn M 50) 51) 52)
def ri_Cuts_49 (R : zR) : zR := (zrs (zrs (zrs (zrn (zrs (zrn (zrs (zrn R 50) 49 2 50) 51) 49 3 51) 52) 49 4 52) 49 0 1) 49 1 5)
theorem nw_Cuts_49 {R : zR} (h : nW 50 R) : nW 53 (ri_Cuts_49 R) := (nW_set (nW_set (nW_set (nW_new (nW_set (nW_new (nW_set (nW_new h) (by decide))) (by decide))) (by decide)) (by decide)) (by decide))
set_option maxRecDepth 20000 in
theorem ni_Cuts_49 (l : Launch) (G : zG) (M : zM) (R : zR) : nC l G 1 3 36 yX0_init cX0_init 3 [.ref 49, .ref 1, .ref 5] (zLX.take 50) M R (zLX.take 53) (mi_Cuts_49 M) (ri_Cuts_49 R) := by
  refine nC.of (by decide) rfl (Nat.le_of_ble_eq_true rfl) ?_
  refine n_aload_n (pc := 0) dX0_init_0 rfl ?_
  refine n_obj (pc := 1) tw_342 (by decide) rfl dX0_init_1 ?_
  refine n_aload_n (pc := 4) dX0_init_4 rfl ?_
  refine n_bipush (pc := 5) 12 dX0_init_5 (by decide) ?_
  refine n_newa_i (pc := 7) 50 12 rfl (by decide) tw_153 (by decide) (by decide) (by decide) (by decide) (by decide) rfl rfl dX0_init_7 ?_
  refine n_putFR (pc := 9) (q := 2) zk0 rfl rfl tw_345 rfl rfl (fun _ => ⟨rfl, rfl⟩) (by decide) dX0_init_9 ?_
  refine n_aload_n (pc := 12) dX0_init_12 rfl ?_
  refine n_bipush (pc := 13) 12 dX0_init_13 (by decide) ?_
  refine n_newa_i (pc := 15) 51 12 rfl (by decide) tw_153 (by decide) (by decide) (by decide) (by decide) (by decide) rfl rfl dX0_init_15 ?_
  refine n_putFR (pc := 17) (q := 3) zk0 rfl rfl tw_346 rfl rfl (fun _ => ⟨rfl, rfl⟩) (by decide) dX0_init_17 ?_
  refine n_aload_n (pc := 20) dX0_init_20 rfl ?_
  refine n_bipush (pc := 21) 12 dX0_init_21 (by decide) ?_
  refine n_newa_i (pc := 23) 52 12 rfl (by decide) tw_153 (by decide) (by decide) (by decide) (by decide) (by decide) rfl rfl dX0_init_23 ?_
  refine n_putFR (pc := 25) (q := 4) zk0 rfl rfl tw_347 rfl rfl (fun _ => ⟨rfl, rfl⟩) (by decide) dX0_init_25 ?_
  refine n_aload_n (pc := 28) dX0_init_28 rfl ?_
  refine n_aload_n (pc := 29) dX0_init_29 rfl ?_
  refine n_putFR (pc := 30) (q := 0) zk0 rfl rfl tw_343 rfl rfl (fun _ => ⟨rfl, rfl⟩) (by decide) dX0_init_30 ?_
  refine n_aload_n (pc := 33) dX0_init_33 rfl ?_
  refine n_aload_n (pc := 34) dX0_init_34 rfl ?_
  refine n_putFR (pc := 35) (q := 1) zk0 rfl rfl tw_344 rfl rfl (fun _ => ⟨rfl, rfl⟩) (by decide) dX0_init_35 ?_
  exact n_vret (pc := 38) dX0_init_38 (by decide) (by decide) rfl rfl rfl
theorem dX7_init_0 : decode cX7_init 0 = .ok (.aload_n 0, 1) := by decide +kernel
theorem dX7_init_1 : decode cX7_init 1 = .ok (.invokespecial 3, 3) := by decide +kernel
theorem dX7_init_4 : decode cX7_init 4 = .ok (.aload_n 0, 1) := by decide +kernel
theorem dX7_init_5 : decode cX7_init 5 = .ok (.iconst 5, 1) := by decide +kernel
theorem dX7_init_6 : decode cX7_init 6 = .ok (.newarray .int, 2) := by decide +kernel
theorem dX7_init_8 : decode cX7_init 8 = .ok (.putfield 9, 3) := by decide +kernel
theorem dX7_init_11 : decode cX7_init 11 = .ok (.aload_n 0, 1) := by decide +kernel
theorem dX7_init_12 : decode cX7_init 12 = .ok (.bipush 10, 2) := by decide +kernel
theorem dX7_init_14 : decode cX7_init 14 = .ok (.newarray .int, 2) := by decide +kernel
theorem dX7_init_16 : decode cX7_init 16 = .ok (.putfield 15, 3) := by decide +kernel
theorem dX7_init_19 : decode cX7_init 19 = .ok (.aload_n 0, 1) := by decide +kernel
theorem dX7_init_20 : decode cX7_init 20 = .ok (.iconst 0, 1) := by decide +kernel
theorem dX7_init_21 : decode cX7_init 21 = .ok (.putfield 18, 3) := by decide +kernel
theorem dX7_init_24 : decode cX7_init 24 = .ok (.return_, 1) := by decide +kernel
theorem zb_X7_init : zcB yX7_init cX7_init 1 none 0 := ⟨tw_89, tw_363, by decide +kernel⟩
def mi_SmallNets_53 (M : zM) : zM := (zs (zmn (zmn M 54) 55) 53 2 0)
def ri_SmallNets_53 (R : zR) : zR := (zrs (zrn (zrs (zrn R 54) 53 0 54) 55) 53 1 55)
theorem nw_SmallNets_53 {R : zR} (h : nW 54 R) : nW 56 (ri_SmallNets_53 R) := (nW_set (nW_new (nW_set (nW_new h) (by decide))) (by decide))
set_option maxRecDepth 20000 in
theorem ni_SmallNets_53 (l : Launch) (G : zG) (M : zM) (R : zR) : nC l G 1 2 15 yX7_init cX7_init 1 [.ref 53] (zLX.take 54) M R (zLX.take 56) (mi_SmallNets_53 M) (ri_SmallNets_53 R) := by
  refine nC.of (by decide) rfl (Nat.le_of_ble_eq_true rfl) ?_
  refine n_aload_n (pc := 0) dX7_init_0 rfl ?_
  refine n_obj (pc := 1) tw_364 (by decide) rfl dX7_init_1 ?_
  refine n_aload_n (pc := 4) dX7_init_4 rfl ?_
  refine n_iconst (pc := 5) 5 dX7_init_5 (by decide) ?_
  refine n_newa_i (pc := 6) 54 5 rfl (by decide) tw_153 (by decide) (by decide) (by decide) (by decide) (by decide) rfl rfl dX7_init_6 ?_
  refine n_putFR (pc := 8) (q := 0) zk7 rfl rfl tw_365 rfl rfl (fun _ => ⟨rfl, rfl⟩) (by decide) dX7_init_8 ?_
  refine n_aload_n (pc := 11) dX7_init_11 rfl ?_
  refine n_bipush (pc := 12) 10 dX7_init_12 (by decide) ?_
  refine n_newa_i (pc := 14) 55 10 rfl (by decide) tw_153 (by decide) (by decide) (by decide) (by decide) (by decide) rfl rfl dX7_init_14 ?_
  refine n_putFR (pc := 16) (q := 1) zk7 rfl rfl tw_366 rfl rfl (fun _ => ⟨rfl, rfl⟩) (by decide) dX7_init_16 ?_
  refine n_aload_n (pc := 19) dX7_init_19 rfl ?_
  refine n_iconst (pc := 20) 0 dX7_init_20 (by decide) ?_
  refine n_putI (pc := 21) (q := 2) zk7 rfl rfl tw_367 rfl rfl rfl dX7_init_21 ?_
  exact n_vret (pc := 24) dX7_init_24 (by decide) (by decide) rfl rfl rfl
theorem dX6_init_0 : decode cX6_init 0 = .ok (.aload_n 0, 1) := by decide +kernel
theorem dX6_init_1 : decode cX6_init 1 = .ok (.invokespecial 3, 3) := by decide +kernel
theorem dX6_init_4 : decode cX6_init 4 = .ok (.aload_n 0, 1) := by decide +kernel
theorem dX6_init_5 : decode cX6_init 5 = .ok (.sipush 200, 3) := by decide +kernel
theorem dX6_init_8 : decode cX6_init 8 = .ok (.newarray .byte, 2) := by decide +kernel
theorem dX6_init_10 : decode cX6_init 10 = .ok (.putfield 9, 3) := by decide +kernel
theorem dX6_init_13 : decode cX6_init 13 = .ok (.aload_n 0, 1) := by decide +kernel
theorem dX6_init_14 : decode cX6_init 14 = .ok (.iconst 0, 1) := by decide +kernel
theorem dX6_init_15 : decode cX6_init 15 = .ok (.putfield 15, 3) := by decide +kernel
theorem dX6_init_18 : decode cX6_init 18 = .ok (.aload_n 0, 1) := by decide +kernel
theorem dX6_init_19 : decode cX6_init 19 = .ok (.iconst (-1), 1) := by decide +kernel
theorem dX6_init_20 : decode cX6_init 20 = .ok (.putfield 19, 3) := by decide +kernel
theorem dX6_init_23 : decode cX6_init 23 = .ok (.aload_n 0, 1) := by decide +kernel
theorem dX6_init_24 : decode cX6_init 24 = .ok (.iconst 0, 1) := by decide +kernel
theorem dX6_init_25 : decode cX6_init 25 = .ok (.putfield 22, 3) := by decide +kernel
theorem dX6_init_28 : decode cX6_init 28 = .ok (.aload_n 0, 1) := by decide +kernel
theorem dX6_init_29 : decode cX6_init 29 = .ok (.iconst 0, 1) := by decide +kernel
theorem dX6_init_30 : decode cX6_init 30 = .ok (.putfield 25, 3) := by decide +kernel
theorem dX6_init_33 : decode cX6_init 33 = .ok (.aload_n 0, 1) := by decide +kernel
theorem dX6_init_34 : decode cX6_init 34 = .ok (.iconst 0, 1) := by decide +kernel
theorem dX6_init_35 : decode cX6_init 35 = .ok (.putfield 28, 3) := by decide +kernel
theorem dX6_init_38 : decode cX6_init 38 = .ok (.aload_n 0, 1) := by decide +kernel
theorem dX6_init_39 : decode cX6_init 39 = .ok (.bipush 12, 2) := by decide +kernel
theorem dX6_init_41 : decode cX6_init 41 = .ok (.newarray .int, 2) := by decide +kernel
theorem dX6_init_43 : decode cX6_init 43 = .ok (.putfield 31, 3) := by decide +kernel
theorem dX6_init_46 : decode cX6_init 46 = .ok (.aload_n 0, 1) := by decide +kernel
theorem dX6_init_47 : decode cX6_init 47 = .ok (.bipush 12, 2) := by decide +kernel
theorem dX6_init_49 : decode cX6_init 49 = .ok (.newarray .int, 2) := by decide +kernel
theorem dX6_init_51 : decode cX6_init 51 = .ok (.putfield 35, 3) := by decide +kernel
theorem dX6_init_54 : decode cX6_init 54 = .ok (.aload_n 0, 1) := by decide +kernel
theorem dX6_init_55 : decode cX6_init 55 = .ok (.bipush 12, 2) := by decide +kernel
theorem dX6_init_57 : decode cX6_init 57 = .ok (.newarray .int, 2) := by decide +kernel
theorem dX6_init_59 : decode cX6_init 59 = .ok (.putfield 38, 3) := by decide +kernel
theorem dX6_init_62 : decode cX6_init 62 = .ok (.aload_n 0, 1) := by decide +kernel
theorem dX6_init_63 : decode cX6_init 63 = .ok (.bipush 12, 2) := by decide +kernel
theorem dX6_init_65 : decode cX6_init 65 = .ok (.newarray .int, 2) := by decide +kernel
theorem dX6_init_67 : decode cX6_init 67 = .ok (.putfield 41, 3) := by decide +kernel
theorem dX6_init_70 : decode cX6_init 70 = .ok (.aload_n 0, 1) := by decide +kernel
theorem dX6_init_71 : decode cX6_init 71 = .ok (.iconst 0, 1) := by decide +kernel
theorem dX6_init_72 : decode cX6_init 72 = .ok (.putfield 44, 3) := by decide +kernel
theorem dX6_init_75 : decode cX6_init 75 = .ok (.aload_n 0, 1) := by decide +kernel
theorem dX6_init_76 : decode cX6_init 76 = .ok (.bipush 12, 2) := by decide +kernel
theorem dX6_init_78 : decode cX6_init 78 = .ok (.newarray .int, 2) := by decide +kernel
theorem dX6_init_80 : decode cX6_init 80 = .ok (.putfield 47, 3) := by decide +kernel
theorem dX6_init_83 : decode cX6_init 83 = .ok (.aload_n 0, 1) := by decide +kernel
theorem dX6_init_84 : decode cX6_init 84 = .ok (.aload_n 1, 1) := by decide +kernel
theorem dX6_init_85 : decode cX6_init 85 = .ok (.putfield 50, 3) := by decide +kernel
theorem dX6_init_88 : decode cX6_init 88 = .ok (.return_, 1) := by decide +kernel
theorem zb_X6_init : zcB yX6_init cX6_init 2 none 1 := ⟨tw_90, tw_379, by decide +kernel⟩
def mi_Script_56 (M : zM) : zM := (zmn (zs (zmn (zmn (zmn (zmn (zs (zs (zs (zs (zs (zmn M 57) 56 2 0) 56 3 (-1)) 56 4 0) 56 5 0) 56 6 0) 58) 59) 60) 61) 56 11 0) 62)
def ri_Script_56 (R : zR) : zR := (zrs (zrs (zrn (zrs (zrn (zrs (zrn (zrs (zrn (zrs (zrn (zrs (zrn R 57) 56 1 57) 58) 56 7 58) 59) 56 8 59) 60) 56 9 60) 61) 56 10 61) 62) 56 12 62) 56 0 1)
theorem nw_Script_56 {R : zR} (h : nW 57 R) : nW 63 (ri_Script_56 R) := (nW_set (nW_set (nW_new (nW_set (nW_new (nW_set (nW_new (nW_set (nW_new (nW_set (nW_new (nW_set (nW_new h) (by decide))) (by decide))) (by decide))) (by decide))) (by decide))) (by decide)) (by decide))
set_option maxRecDepth 20000 in
theorem ni_Script_56 (l : Launch) (G : zG) (M : zM) (R : zR) : nC l G 1 6 260 yX6_init cX6_init 2 [.ref 56, .ref 1] (zLX.take 57) M R (zLX.take 63) (mi_Script_56 M) (ri_Script_56 R) := by
  refine nC.of (by decide) rfl (Nat.le_of_ble_eq_true rfl) ?_
  refine n_aload_n (pc := 0) dX6_init_0 rfl ?_
  refine n_obj (pc := 1) tw_380 (by decide) rfl dX6_init_1 ?_
  refine n_aload_n (pc := 4) dX6_init_4 rfl ?_
  refine n_sipush (pc := 5) 200 dX6_init_5 (by decide) ?_
  refine n_newa_b (pc := 8) 57 200 rfl (by decide) tw_430 (by decide) (by decide) (by decide) (by decide) (by decide) rfl rfl dX6_init_8 ?_
  refine n_putFR (pc := 10) (q := 1) zk6 rfl rfl tw_382 rfl rfl (fun _ => ⟨rfl, rfl⟩) (by decide) dX6_init_10 ?_
  refine n_aload_n (pc := 13) dX6_init_13 rfl ?_
  refine n_iconst (pc := 14) 0 dX6_init_14 (by decide) ?_
  refine n_putI (pc := 15) (q := 2) zk6 rfl rfl tw_383 rfl rfl rfl dX6_init_15 ?_
  refine n_aload_n (pc := 18) dX6_init_18 rfl ?_
  refine n_iconst (pc := 19) (-1) dX6_init_19 (by decide) ?_
  refine n_putI (pc := 20) (q := 3) zk6 rfl rfl tw_385 rfl rfl rfl dX6_init_20 ?_
  refine n_aload_n (pc := 23) dX6_init_23 rfl ?_
  refine n_iconst (pc := 24) 0 dX6_init_24 (by decide) ?_
  refine n_putI (pc := 25) (q := 4) zk6 rfl rfl tw_387 rfl rfl rfl dX6_init_25 ?_
  refine n_aload_n (pc := 28) dX6_init_28 rfl ?_
  refine n_iconst (pc := 29) 0 dX6_init_29 (by decide) ?_
  refine n_putI (pc := 30) (q := 5) zk6 rfl rfl tw_388 rfl rfl rfl dX6_init_30 ?_
  refine n_aload_n (pc := 33) dX6_init_33 rfl ?_
  refine n_iconst (pc := 34) 0 dX6_init_34 (by decide) ?_
  refine n_putI (pc := 35) (q := 6) zk6 rfl rfl tw_389 rfl rfl rfl dX6_init_35 ?_
  refine n_aload_n (pc := 38) dX6_init_38 rfl ?_
  refine n_bipush (pc := 39) 12 dX6_init_39 (by decide) ?_
  refine n_newa_i (pc := 41) 58 12 rfl (by decide) tw_153 (by decide) (by decide) (by decide) (by decide) (by decide) rfl rfl dX6_init_41 ?_
  refine n_putFR (pc := 43) (q := 7) zk6 rfl rfl tw_391 rfl rfl (fun _ => ⟨rfl, rfl⟩) (by decide) dX6_init_43 ?_
  refine n_aload_n (pc := 46) dX6_init_46 rfl ?_
  refine n_bipush (pc := 47) 12 dX6_init_47 (by decide) ?_
  refine n_newa_i (pc := 49) 59 12 rfl (by decide) tw_153 (by decide) (by decide) (by decide) (by decide) (by decide) rfl rfl dX6_init_49 ?_
  refine n_putFR (pc := 51) (q := 8) zk6 rfl rfl tw_393 rfl rfl (fun _ => ⟨rfl, rfl⟩) (by decide) dX6_init_51 ?_
  refine n_aload_n (pc := 54) dX6_init_54 rfl ?_
  refine n_bipush (pc := 55) 12 dX6_init_55 (by decide) ?_
  refine n_newa_i (pc := 57) 60 12 rfl (by decide) tw_153 (by decide) (by decide) (by decide) (by decide) (by decide) rfl rfl dX6_init_57 ?_
  refine n_putFR (pc := 59) (q := 9) zk6 rfl rfl tw_395 rfl rfl (fun _ => ⟨rfl, rfl⟩) (by decide) dX6_init_59 ?_
  refine n_aload_n (pc := 62) dX6_init_62 rfl ?_
  refine n_bipush (pc := 63) 12 dX6_init_63 (by decide) ?_
  refine n_newa_i (pc := 65) 61 12 rfl (by decide) tw_153 (by decide) (by decide) (by decide) (by decide) (by decide) rfl rfl dX6_init_65 ?_
  refine n_putFR (pc := 67) (q := 10) zk6 rfl rfl tw_397 rfl rfl (fun _ => ⟨rfl, rfl⟩) (by decide) dX6_init_67 ?_
  refine n_aload_n (pc := 70) dX6_init_70 rfl ?_
  refine n_iconst (pc := 71) 0 dX6_init_71 (by decide) ?_
  refine n_putI (pc := 72) (q := 11) zk6 rfl rfl tw_399 rfl rfl rfl dX6_init_72 ?_
  refine n_aload_n (pc := 75) dX6_init_75 rfl ?_
  refine n_bipush (pc := 76) 12 dX6_init_76 (by decide) ?_
  refine n_newa_i (pc := 78) 62 12 rfl (by decide) tw_153 (by decide) (by decide) (by decide) (by decide) (by decide) rfl rfl dX6_init_78 ?_
  refine n_putFR (pc := 80) (q := 12) zk6 rfl rfl tw_401 rfl rfl (fun _ => ⟨rfl, rfl⟩) (by decide) dX6_init_80 ?_
  refine n_aload_n (pc := 83) dX6_init_83 rfl ?_
  refine n_aload_n (pc := 84) dX6_init_84 rfl ?_
  refine n_putFR (pc := 85) (q := 0) zk6 rfl rfl tw_381 rfl rfl (fun _ => ⟨rfl, rfl⟩) (by decide) dX6_init_85 ?_
  exact n_vret (pc := 88) dX6_init_88 (by decide) (by decide) rfl rfl rfl
def mi_NN_0 (M : zM) : zM := (mi_Script_56 (zmn (mi_SmallNets_53 (zmn (mi_Cuts_49 (zmn (mi_Parcels_48 (zmn (mi_Page_43 (zmn (mi_Page_38 (zmn (mi_Page_33 (zmn (zmn (mi_Labels_14 (zmn (mi_Tree_5 (zmn (mi_Net_1 (zmn M 1)) 5)) 14)) 32) 33)) 38)) 43)) 48)) 49)) 53)) 56))
def ri_NN_0 (R : zR) : zR := (zrs (ri_Script_56 (zrn (zrs (ri_SmallNets_53 (zrn (zrs (ri_Cuts_49 (zrn (zrs (ri_Parcels_48 (zrn (zrs (ri_Page_43 (zrn (zrs (ri_Page_38 (zrn (zrs (ri_Page_33 (zrn (zrs (zrn (zrs (ri_Labels_14 (zrn (zrs (ri_Tree_5 (zrn (zrs (ri_Net_1 (zrn R 1)) 0 0 1) 5)) 0 1 5) 14)) 0 2 14) 32) 0 3 32) 33)) 32 0 33) 38)) 32 1 38) 43)) 32 2 43) 48)) 0 4 48) 49)) 0 5 49) 53)) 0 6 53) 56)) 0 7 56)
theorem nw_NN_0 {R : zR} (h : nW 1 R) : nW 63 (ri_NN_0 R) := (nW_set (nw_Script_56 (nW_new (nW_set (nw_SmallNets_53 (nW_new (nW_set (nw_Cuts_49 (nW_new (nW_set (nw_Parcels_48 (nW_new (nW_set (nw_Page_43 (nW_new (nW_set (nw_Page_38 (nW_new (nW_set (nw_Page_33 (nW_new (nW_set (nW_new (nW_set (nw_Labels_14 (nW_new (nW_set (nw_Tree_5 (nW_new (nW_set (nw_Net_1 (nW_new h)) (by decide)))) (by decide)))) (by decide))) (by decide)))) (by decide)))) (by decide)))) (by decide)))) (by decide)))) (by decide)))) (by decide)))) (by decide))
set_option maxRecDepth 20000 in
theorem ni_NN_0 (l : Launch) (G : zG) (M : zM) (R : zR) : nC l G 3 62 1696 yX9_init cX9_init 2 [.ref 0] (zLX.take 1) M R (zLX.take 63) (mi_NN_0 M) (ri_NN_0 R) := by
  refine nC.of (by decide) rfl (Nat.le_of_ble_eq_true rfl) ?_
  refine n_aload_n (pc := 0) dX9_init_0 rfl ?_
  refine n_obj (pc := 1) tw_105 (by decide) rfl dX9_init_1 ?_
  refine n_aload_n (pc := 4) dX9_init_4 rfl ?_
  refine n_new (pc := 5) 1 zk3 rfl (by decide) tw_108 tw_109 tw_82 (by decide) (by decide) (by decide) rfl rfl dX9_init_5 ?_
  refine n_dup (pc := 8) dX9_init_8 rfl ?_
  refine n_callI (pc := 9) (As := []) (ni_Net_1 l G (zmn M 1) (zrn R 1)) zb_X3_init rfl tw_111 tw_110 (by decide) (Nat.le_of_ble_eq_true rfl) (by decide) rfl rfl (by decide) (by decide) (fun h => nw_Net_1 h) dX9_init_9 ?_
  refine n_putFR (pc := 12) (q := 0) zk9 rfl rfl tw_431 rfl rfl (fun _ => ⟨rfl, rfl⟩) (by decide) dX9_init_12 ?_
  refine n_aload_n (pc := 15) dX9_init_15 rfl ?_
  refine n_new (pc := 16) 5 zk8 rfl (by decide) tw_154 tw_155 tw_83 (by decide) (by decide) (by decide) rfl rfl dX9_init_16 ?_
  refine n_dup (pc := 19) dX9_init_19 rfl ?_
  refine n_aload_n (pc := 20) dX9_init_20 rfl ?_
  refine n_getR (pc := 21) (q := 0) zk9 rfl rfl rfl tw_431 dX9_init_21 ?_
  refine n_callI (pc := 24) (As := [.ref 1]) (ni_Tree_5 l G (zmn (mi_Net_1 (zmn M 1)) 5) (zrn (zrs (ri_Net_1 (zrn R 1)) 0 0 1) 5)) zb_X8_init rfl tw_157 tw_156 (by decide) (Nat.le_of_ble_eq_true rfl) (by decide) rfl rfl (by decide) (by decide) (fun h => nw_Tree_5 h) dX9_init_24 ?_
  refine n_putFR (pc := 27) (q := 1) zk9 rfl rfl tw_432 rfl rfl (fun _ => ⟨rfl, rfl⟩) (by decide) dX9_init_27 ?_
  refine n_aload_n (pc := 30) dX9_init_30 rfl ?_
  refine n_new (pc := 31) 14 zk1 rfl (by decide) tw_217 tw_218 tw_84 (by decide) (by decide) (by decide) rfl rfl dX9_init_31 ?_
  refine n_dup (pc := 34) dX9_init_34 rfl ?_
  refine n_aload_n (pc := 35) dX9_init_35 rfl ?_
  refine n_getR (pc := 36) (q := 0) zk9 rfl rfl rfl tw_431 dX9_init_36 ?_
  refine n_aload_n (pc := 39) dX9_init_39 rfl ?_
  refine n_getR (pc := 40) (q := 1) zk9 rfl rfl rfl tw_432 dX9_init_40 ?_
  refine n_callI (pc := 43) (As := [.ref 1, .ref 5]) (ni_Labels_14 l G (zmn (mi_Tree_5 (zmn (mi_Net_1 (zmn M 1)) 5)) 14) (zrn (zrs (ri_Tree_5 (zrn (zrs (ri_Net_1 (zrn R 1)) 0 0 1) 5)) 0 1 5) 14)) zb_X1_init rfl tw_220 tw_219 (by decide) (Nat.le_of_ble_eq_true rfl) (by decide) rfl rfl (by decide) (by decide) (fun h => nw_Labels_14 h) dX9_init_43 ?_
  refine n_putFR (pc := 46) (q := 2) zk9 rfl rfl tw_433 rfl rfl (fun _ => ⟨rfl, rfl⟩) (by decide) dX9_init_46 ?_
  refine n_aload_n (pc := 49) dX9_init_49 rfl ?_
  refine n_iconst (pc := 50) 3 dX9_init_50 (by decide) ?_
  refine n_newq_p (pc := 51) 32 3 rfl (by decide) tw_280 (by decide) (by decide) (by decide) (by decide) (by decide) rfl rfl dX9_init_51 ?_
  refine n_putFR (pc := 54) (q := 3) zk9 rfl rfl tw_434 rfl rfl (fun _ => ⟨rfl, rfl⟩) (by decide) dX9_init_54 ?_
  refine n_iconst (pc := 57) 0 dX9_init_57 (by decide) ?_
  refine n_istore_n (pc := 58) dX9_init_58 (by decide) ?_
  refine n_iload_n (pc := 59) dX9_init_59 rfl ?_
  refine n_iconst (pc := 60) 3 dX9_init_60 (by decide) ?_
  refine n_icmp_ge_f (pc := 61) 84 dX9_init_61 (by decide) (by decide) ?_
  refine n_aload_n (pc := 64) dX9_init_64 rfl ?_
  refine n_getR (pc := 65) (q := 3) zk9 rfl rfl rfl tw_434 dX9_init_65 ?_
  refine n_iload_n (pc := 68) dX9_init_68 rfl ?_
  refine n_new (pc := 69) 33 zk4 rfl (by decide) tw_280 tw_282 tw_86 (by decide) (by decide) (by decide) rfl rfl dX9_init_69 ?_
  refine n_dup (pc := 72) dX9_init_72 rfl ?_
  refine n_iload_n (pc := 73) dX9_init_73 rfl ?_
  refine n_callI (pc := 74) (As := [.int 0]) (ni_Page_33 l G (zmn (zmn (mi_Labels_14 (zmn (mi_Tree_5 (zmn (mi_Net_1 (zmn M 1)) 5)) 14)) 32) 33) (zrn (zrs (zrn (zrs (ri_Labels_14 (zrn (zrs (ri_Tree_5 (zrn (zrs (ri_Net_1 (zrn R 1)) 0 0 1) 5)) 0 1 5) 14)) 0 2 14) 32) 0 3 32) 33)) zb_X4_init rfl tw_284 tw_283 (by decide) (Nat.le_of_ble_eq_true rfl) (by decide) rfl rfl (by decide) (by decide) (fun h => nw_Page_33 h) dX9_init_74 ?_
  refine n_paast (pc := 77) 0 rfl rfl (by decide) (by decide) dX9_init_77 ?_
  refine n_iinc (pc := 78) 1 dX9_init_78 rfl (by decide) (by decide) ?_
  refine n_goto (pc := 81) 59 dX9_init_81 (by decide) ?_
  refine n_iload_n (pc := 59) dX9_init_59 rfl ?_
  refine n_iconst (pc := 60) 3 dX9_init_60 (by decide) ?_
  refine n_icmp_ge_f (pc := 61) 84 dX9_init_61 (by decide) (by decide) ?_
  refine n_aload_n (pc := 64) dX9_init_64 rfl ?_
  refine n_getR (pc := 65) (q := 3) zk9 rfl rfl rfl tw_434 dX9_init_65 ?_
  refine n_iload_n (pc := 68) dX9_init_68 rfl ?_
  refine n_new (pc := 69) 38 zk4 rfl (by decide) tw_280 tw_282 tw_86 (by decide) (by decide) (by decide) rfl rfl dX9_init_69 ?_
  refine n_dup (pc := 72) dX9_init_72 rfl ?_
  refine n_iload_n (pc := 73) dX9_init_73 rfl ?_
  refine n_callI (pc := 74) (As := [.int 1]) (ni_Page_38 l G (zmn (mi_Page_33 (zmn (zmn (mi_Labels_14 (zmn (mi_Tree_5 (zmn (mi_Net_1 (zmn M 1)) 5)) 14)) 32) 33)) 38) (zrn (zrs (ri_Page_33 (zrn (zrs (zrn (zrs (ri_Labels_14 (zrn (zrs (ri_Tree_5 (zrn (zrs (ri_Net_1 (zrn R 1)) 0 0 1) 5)) 0 1 5) 14)) 0 2 14) 32) 0 3 32) 33)) 32 0 33) 38)) zb_X4_init rfl tw_284 tw_283 (by decide) (Nat.le_of_ble_eq_true rfl) (by decide) rfl rfl (by decide) (by decide) (fun h => nw_Page_38 h) dX9_init_74 ?_
  refine n_paast (pc := 77) 1 rfl rfl (by decide) (by decide) dX9_init_77 ?_
  refine n_iinc (pc := 78) 2 dX9_init_78 rfl (by decide) (by decide) ?_
  refine n_goto (pc := 81) 59 dX9_init_81 (by decide) ?_
  refine n_iload_n (pc := 59) dX9_init_59 rfl ?_
  refine n_iconst (pc := 60) 3 dX9_init_60 (by decide) ?_
  refine n_icmp_ge_f (pc := 61) 84 dX9_init_61 (by decide) (by decide) ?_
  refine n_aload_n (pc := 64) dX9_init_64 rfl ?_
  refine n_getR (pc := 65) (q := 3) zk9 rfl rfl rfl tw_434 dX9_init_65 ?_
  refine n_iload_n (pc := 68) dX9_init_68 rfl ?_
  refine n_new (pc := 69) 43 zk4 rfl (by decide) tw_280 tw_282 tw_86 (by decide) (by decide) (by decide) rfl rfl dX9_init_69 ?_
  refine n_dup (pc := 72) dX9_init_72 rfl ?_
  refine n_iload_n (pc := 73) dX9_init_73 rfl ?_
  refine n_callI (pc := 74) (As := [.int 2]) (ni_Page_43 l G (zmn (mi_Page_38 (zmn (mi_Page_33 (zmn (zmn (mi_Labels_14 (zmn (mi_Tree_5 (zmn (mi_Net_1 (zmn M 1)) 5)) 14)) 32) 33)) 38)) 43) (zrn (zrs (ri_Page_38 (zrn (zrs (ri_Page_33 (zrn (zrs (zrn (zrs (ri_Labels_14 (zrn (zrs (ri_Tree_5 (zrn (zrs (ri_Net_1 (zrn R 1)) 0 0 1) 5)) 0 1 5) 14)) 0 2 14) 32) 0 3 32) 33)) 32 0 33) 38)) 32 1 38) 43)) zb_X4_init rfl tw_284 tw_283 (by decide) (Nat.le_of_ble_eq_true rfl) (by decide) rfl rfl (by decide) (by decide) (fun h => nw_Page_43 h) dX9_init_74 ?_
  refine n_paast (pc := 77) 2 rfl rfl (by decide) (by decide) dX9_init_77 ?_
  refine n_iinc (pc := 78) 3 dX9_init_78 rfl (by decide) (by decide) ?_
  refine n_goto (pc := 81) 59 dX9_init_81 (by decide) ?_
  refine n_iload_n (pc := 59) dX9_init_59 rfl ?_
  refine n_iconst (pc := 60) 3 dX9_init_60 (by decide) ?_
  refine n_icmp_ge_t (pc := 61) 84 dX9_init_61 (by decide) (by decide) ?_
  refine n_aload_n (pc := 84) dX9_init_84 rfl ?_
  refine n_new (pc := 85) 48 zk5 rfl (by decide) tw_302 tw_303 tw_87 (by decide) (by decide) (by decide) rfl rfl dX9_init_85 ?_
  refine n_dup (pc := 88) dX9_init_88 rfl ?_
  refine n_aload_n (pc := 89) dX9_init_89 rfl ?_
  refine n_getR (pc := 90) (q := 0) zk9 rfl rfl rfl tw_431 dX9_init_90 ?_
  refine n_aload_n (pc := 93) dX9_init_93 rfl ?_
  refine n_getR (pc := 94) (q := 1) zk9 rfl rfl rfl tw_432 dX9_init_94 ?_
  refine n_aload_n (pc := 97) dX9_init_97 rfl ?_
  refine n_getR (pc := 98) (q := 2) zk9 rfl rfl rfl tw_433 dX9_init_98 ?_
  refine n_callI (pc := 101) (As := [.ref 1, .ref 5, .ref 14]) (ni_Parcels_48 l G (zmn (mi_Page_43 (zmn (mi_Page_38 (zmn (mi_Page_33 (zmn (zmn (mi_Labels_14 (zmn (mi_Tree_5 (zmn (mi_Net_1 (zmn M 1)) 5)) 14)) 32) 33)) 38)) 43)) 48) (zrn (zrs (ri_Page_43 (zrn (zrs (ri_Page_38 (zrn (zrs (ri_Page_33 (zrn (zrs (zrn (zrs (ri_Labels_14 (zrn (zrs (ri_Tree_5 (zrn (zrs (ri_Net_1 (zrn R 1)) 0 0 1) 5)) 0 1 5) 14)) 0 2 14) 32) 0 3 32) 33)) 32 0 33) 38)) 32 1 38) 43)) 32 2 43) 48)) zb_X5_init rfl tw_305 tw_304 (by decide) (Nat.le_of_ble_eq_true rfl) (by decide) rfl rfl (by decide) (by decide) (fun h => nw_Parcels_48 h) dX9_init_101 ?_
  refine n_putFR (pc := 104) (q := 4) zk9 rfl rfl tw_435 rfl rfl (fun _ => ⟨rfl, rfl⟩) (by decide) dX9_init_104 ?_
  refine n_aload_n (pc := 107) dX9_init_107 rfl ?_
  refine n_new (pc := 108) 49 zk0 rfl (by decide) tw_337 tw_338 tw_88 (by decide) (by decide) (by decide) rfl rfl dX9_init_108 ?_
  refine n_dup (pc := 111) dX9_init_111 rfl ?_
  refine n_aload_n (pc := 112) dX9_init_112 rfl ?_
  refine n_getR (pc := 113) (q := 0) zk9 rfl rfl rfl tw_431 dX9_init_113 ?_
  refine n_aload_n (pc := 116) dX9_init_116 rfl ?_
  refine n_getR (pc := 117) (q := 1) zk9 rfl rfl rfl tw_432 dX9_init_117 ?_
  refine n_callI (pc := 120) (As := [.ref 1, .ref 5]) (ni_Cuts_49 l G (zmn (mi_Parcels_48 (zmn (mi_Page_43 (zmn (mi_Page_38 (zmn (mi_Page_33 (zmn (zmn (mi_Labels_14 (zmn (mi_Tree_5 (zmn (mi_Net_1 (zmn M 1)) 5)) 14)) 32) 33)) 38)) 43)) 48)) 49) (zrn (zrs (ri_Parcels_48 (zrn (zrs (ri_Page_43 (zrn (zrs (ri_Page_38 (zrn (zrs (ri_Page_33 (zrn (zrs (zrn (zrs (ri_Labels_14 (zrn (zrs (ri_Tree_5 (zrn (zrs (ri_Net_1 (zrn R 1)) 0 0 1) 5)) 0 1 5) 14)) 0 2 14) 32) 0 3 32) 33)) 32 0 33) 38)) 32 1 38) 43)) 32 2 43) 48)) 0 4 48) 49)) zb_X0_init rfl tw_340 tw_339 (by decide) (Nat.le_of_ble_eq_true rfl) (by decide) rfl rfl (by decide) (by decide) (fun h => nw_Cuts_49 h) dX9_init_120 ?_
  refine n_putFR (pc := 123) (q := 5) zk9 rfl rfl tw_436 rfl rfl (fun _ => ⟨rfl, rfl⟩) (by decide) dX9_init_123 ?_
  refine n_aload_n (pc := 126) dX9_init_126 rfl ?_
  refine n_new (pc := 127) 53 zk7 rfl (by decide) tw_359 tw_360 tw_89 (by decide) (by decide) (by decide) rfl rfl dX9_init_127 ?_
  refine n_dup (pc := 130) dX9_init_130 rfl ?_
  refine n_callI (pc := 131) (As := []) (ni_SmallNets_53 l G (zmn (mi_Cuts_49 (zmn (mi_Parcels_48 (zmn (mi_Page_43 (zmn (mi_Page_38 (zmn (mi_Page_33 (zmn (zmn (mi_Labels_14 (zmn (mi_Tree_5 (zmn (mi_Net_1 (zmn M 1)) 5)) 14)) 32) 33)) 38)) 43)) 48)) 49)) 53) (zrn (zrs (ri_Cuts_49 (zrn (zrs (ri_Parcels_48 (zrn (zrs (ri_Page_43 (zrn (zrs (ri_Page_38 (zrn (zrs (ri_Page_33 (zrn (zrs (zrn (zrs (ri_Labels_14 (zrn (zrs (ri_Tree_5 (zrn (zrs (ri_Net_1 (zrn R 1)) 0 0 1) 5)) 0 1 5) 14)) 0 2 14) 32) 0 3 32) 33)) 32 0 33) 38)) 32 1 38) 43)) 32 2 43) 48)) 0 4 48) 49)) 0 5 49) 53)) zb_X7_init rfl tw_362 tw_361 (by decide) (Nat.le_of_ble_eq_true rfl) (by decide) rfl rfl (by decide) (by decide) (fun h => nw_SmallNets_53 h) dX9_init_131 ?_
  refine n_putFR (pc := 134) (q := 6) zk9 rfl rfl tw_437 rfl rfl (fun _ => ⟨rfl, rfl⟩) (by decide) dX9_init_134 ?_
  refine n_aload_n (pc := 137) dX9_init_137 rfl ?_
  refine n_new (pc := 138) 56 zk6 rfl (by decide) tw_375 tw_376 tw_90 (by decide) (by decide) (by decide) rfl rfl dX9_init_138 ?_
  refine n_dup (pc := 141) dX9_init_141 rfl ?_
  refine n_aload_n (pc := 142) dX9_init_142 rfl ?_
  refine n_getR (pc := 143) (q := 0) zk9 rfl rfl rfl tw_431 dX9_init_143 ?_
  refine n_callI (pc := 146) (As := [.ref 1]) (ni_Script_56 l G (zmn (mi_SmallNets_53 (zmn (mi_Cuts_49 (zmn (mi_Parcels_48 (zmn (mi_Page_43 (zmn (mi_Page_38 (zmn (mi_Page_33 (zmn (zmn (mi_Labels_14 (zmn (mi_Tree_5 (zmn (mi_Net_1 (zmn M 1)) 5)) 14)) 32) 33)) 38)) 43)) 48)) 49)) 53)) 56) (zrn (zrs (ri_SmallNets_53 (zrn (zrs (ri_Cuts_49 (zrn (zrs (ri_Parcels_48 (zrn (zrs (ri_Page_43 (zrn (zrs (ri_Page_38 (zrn (zrs (ri_Page_33 (zrn (zrs (zrn (zrs (ri_Labels_14 (zrn (zrs (ri_Tree_5 (zrn (zrs (ri_Net_1 (zrn R 1)) 0 0 1) 5)) 0 1 5) 14)) 0 2 14) 32) 0 3 32) 33)) 32 0 33) 38)) 32 1 38) 43)) 32 2 43) 48)) 0 4 48) 49)) 0 5 49) 53)) 0 6 53) 56)) zb_X6_init rfl tw_378 tw_377 (by decide) (Nat.le_of_ble_eq_true rfl) (by decide) rfl rfl (by decide) (by decide) (fun h => nw_Script_56 h) dX9_init_146 ?_
  refine n_putFR (pc := 149) (q := 7) zk9 rfl rfl tw_438 rfl rfl (fun _ => ⟨rfl, rfl⟩) (by decide) dX9_init_149 ?_
  exact n_vret (pc := 152) dX9_init_152 (by decide) (by decide) rfl rfl rfl
theorem dX10_init_0 : decode cX10_init 0 = .ok (.aload_n 0, 1) := by decide +kernel
theorem dX10_init_1 : decode cX10_init 1 = .ok (.invokespecial 1, 3) := by decide +kernel
theorem dX10_init_4 : decode cX10_init 4 = .ok (.aload_n 0, 1) := by decide +kernel
theorem dX10_init_5 : decode cX10_init 5 = .ok (.bipush 30, 2) := by decide +kernel
theorem dX10_init_7 : decode cX10_init 7 = .ok (.newarray .int, 2) := by decide +kernel
theorem dX10_init_9 : decode cX10_init 9 = .ok (.putfield 7, 3) := by decide +kernel
theorem dX10_init_12 : decode cX10_init 12 = .ok (.aload_n 0, 1) := by decide +kernel
theorem dX10_init_13 : decode cX10_init 13 = .ok (.bipush 30, 2) := by decide +kernel
theorem dX10_init_15 : decode cX10_init 15 = .ok (.newarray .int, 2) := by decide +kernel
theorem dX10_init_17 : decode cX10_init 17 = .ok (.putfield 13, 3) := by decide +kernel
theorem dX10_init_20 : decode cX10_init 20 = .ok (.aload_n 0, 1) := by decide +kernel
theorem dX10_init_21 : decode cX10_init 21 = .ok (.bipush 12, 2) := by decide +kernel
theorem dX10_init_23 : decode cX10_init 23 = .ok (.newarray .int, 2) := by decide +kernel
theorem dX10_init_25 : decode cX10_init 25 = .ok (.putfield 16, 3) := by decide +kernel
theorem dX10_init_28 : decode cX10_init 28 = .ok (.aload_n 0, 1) := by decide +kernel
theorem dX10_init_29 : decode cX10_init 29 = .ok (.bipush 12, 2) := by decide +kernel
theorem dX10_init_31 : decode cX10_init 31 = .ok (.newarray .int, 2) := by decide +kernel
theorem dX10_init_33 : decode cX10_init 33 = .ok (.putfield 19, 3) := by decide +kernel
theorem dX10_init_36 : decode cX10_init 36 = .ok (.aload_n 0, 1) := by decide +kernel
theorem dX10_init_37 : decode cX10_init 37 = .ok (.bipush 12, 2) := by decide +kernel
theorem dX10_init_39 : decode cX10_init 39 = .ok (.newarray .int, 2) := by decide +kernel
theorem dX10_init_41 : decode cX10_init 41 = .ok (.putfield 22, 3) := by decide +kernel
theorem dX10_init_44 : decode cX10_init 44 = .ok (.aload_n 0, 1) := by decide +kernel
theorem dX10_init_45 : decode cX10_init 45 = .ok (.bipush 12, 2) := by decide +kernel
theorem dX10_init_47 : decode cX10_init 47 = .ok (.newarray .int, 2) := by decide +kernel
theorem dX10_init_49 : decode cX10_init 49 = .ok (.putfield 25, 3) := by decide +kernel
theorem dX10_init_52 : decode cX10_init 52 = .ok (.aload_n 0, 1) := by decide +kernel
theorem dX10_init_53 : decode cX10_init 53 = .ok (.bipush 12, 2) := by decide +kernel
theorem dX10_init_55 : decode cX10_init 55 = .ok (.newarray .int, 2) := by decide +kernel
theorem dX10_init_57 : decode cX10_init 57 = .ok (.putfield 28, 3) := by decide +kernel
theorem dX10_init_60 : decode cX10_init 60 = .ok (.aload_n 0, 1) := by decide +kernel
theorem dX10_init_61 : decode cX10_init 61 = .ok (.bipush 12, 2) := by decide +kernel
theorem dX10_init_63 : decode cX10_init 63 = .ok (.newarray .int, 2) := by decide +kernel
theorem dX10_init_65 : decode cX10_init 65 = .ok (.putfield 31, 3) := by decide +kernel
theorem dX10_init_68 : decode cX10_init 68 = .ok (.aload_n 0, 1) := by decide +kernel
theorem dX10_init_69 : decode cX10_init 69 = .ok (.bipush 12, 2) := by decide +kernel
theorem dX10_init_71 : decode cX10_init 71 = .ok (.newarray .int, 2) := by decide +kernel
theorem dX10_init_73 : decode cX10_init 73 = .ok (.putfield 34, 3) := by decide +kernel
theorem dX10_init_76 : decode cX10_init 76 = .ok (.aload_n 0, 1) := by decide +kernel
theorem dX10_init_77 : decode cX10_init 77 = .ok (.bipush 12, 2) := by decide +kernel
theorem dX10_init_79 : decode cX10_init 79 = .ok (.newarray .int, 2) := by decide +kernel
theorem dX10_init_81 : decode cX10_init 81 = .ok (.putfield 37, 3) := by decide +kernel
theorem dX10_init_84 : decode cX10_init 84 = .ok (.aload_n 0, 1) := by decide +kernel
theorem dX10_init_85 : decode cX10_init 85 = .ok (.bipush 12, 2) := by decide +kernel
theorem dX10_init_87 : decode cX10_init 87 = .ok (.newarray .int, 2) := by decide +kernel
theorem dX10_init_89 : decode cX10_init 89 = .ok (.putfield 40, 3) := by decide +kernel
theorem dX10_init_92 : decode cX10_init 92 = .ok (.aload_n 0, 1) := by decide +kernel
theorem dX10_init_93 : decode cX10_init 93 = .ok (.bipush 12, 2) := by decide +kernel
theorem dX10_init_95 : decode cX10_init 95 = .ok (.newarray .int, 2) := by decide +kernel
theorem dX10_init_97 : decode cX10_init 97 = .ok (.putfield 43, 3) := by decide +kernel
theorem dX10_init_100 : decode cX10_init 100 = .ok (.aload_n 0, 1) := by decide +kernel
theorem dX10_init_101 : decode cX10_init 101 = .ok (.sipush 312, 3) := by decide +kernel
theorem dX10_init_104 : decode cX10_init 104 = .ok (.newarray .int, 2) := by decide +kernel
theorem dX10_init_106 : decode cX10_init 106 = .ok (.putfield 46, 3) := by decide +kernel
theorem dX10_init_109 : decode cX10_init 109 = .ok (.aload_n 0, 1) := by decide +kernel
theorem dX10_init_110 : decode cX10_init 110 = .ok (.bipush 12, 2) := by decide +kernel
theorem dX10_init_112 : decode cX10_init 112 = .ok (.newarray .int, 2) := by decide +kernel
theorem dX10_init_114 : decode cX10_init 114 = .ok (.putfield 49, 3) := by decide +kernel
theorem dX10_init_117 : decode cX10_init 117 = .ok (.aload_n 0, 1) := by decide +kernel
theorem dX10_init_118 : decode cX10_init 118 = .ok (.bipush 12, 2) := by decide +kernel
theorem dX10_init_120 : decode cX10_init 120 = .ok (.newarray .int, 2) := by decide +kernel
theorem dX10_init_122 : decode cX10_init 122 = .ok (.putfield 52, 3) := by decide +kernel
theorem dX10_init_125 : decode cX10_init 125 = .ok (.aload_n 0, 1) := by decide +kernel
theorem dX10_init_126 : decode cX10_init 126 = .ok (.bipush 6, 2) := by decide +kernel
theorem dX10_init_128 : decode cX10_init 128 = .ok (.newarray .int, 2) := by decide +kernel
theorem dX10_init_130 : decode cX10_init 130 = .ok (.putfield 55, 3) := by decide +kernel
theorem dX10_init_133 : decode cX10_init 133 = .ok (.aload_n 0, 1) := by decide +kernel
theorem dX10_init_134 : decode cX10_init 134 = .ok (.iconst 3, 1) := by decide +kernel
theorem dX10_init_135 : decode cX10_init 135 = .ok (.newarray .boolean, 2) := by decide +kernel
theorem dX10_init_137 : decode cX10_init 137 = .ok (.putfield 58, 3) := by decide +kernel
theorem dX10_init_140 : decode cX10_init 140 = .ok (.aload_n 0, 1) := by decide +kernel
theorem dX10_init_141 : decode cX10_init 141 = .ok (.iconst 3, 1) := by decide +kernel
theorem dX10_init_142 : decode cX10_init 142 = .ok (.newarray .int, 2) := by decide +kernel
theorem dX10_init_144 : decode cX10_init 144 = .ok (.putfield 62, 3) := by decide +kernel
theorem dX10_init_147 : decode cX10_init 147 = .ok (.aload_n 0, 1) := by decide +kernel
theorem dX10_init_148 : decode cX10_init 148 = .ok (.bipush 36, 2) := by decide +kernel
theorem dX10_init_150 : decode cX10_init 150 = .ok (.newarray .int, 2) := by decide +kernel
theorem dX10_init_152 : decode cX10_init 152 = .ok (.putfield 65, 3) := by decide +kernel
theorem dX10_init_155 : decode cX10_init 155 = .ok (.aload_n 0, 1) := by decide +kernel
theorem dX10_init_156 : decode cX10_init 156 = .ok (.sipush 936, 3) := by decide +kernel
theorem dX10_init_159 : decode cX10_init 159 = .ok (.newarray .int, 2) := by decide +kernel
theorem dX10_init_161 : decode cX10_init 161 = .ok (.putfield 68, 3) := by decide +kernel
theorem dX10_init_164 : decode cX10_init 164 = .ok (.aload_n 0, 1) := by decide +kernel
theorem dX10_init_165 : decode cX10_init 165 = .ok (.bipush 36, 2) := by decide +kernel
theorem dX10_init_167 : decode cX10_init 167 = .ok (.newarray .int, 2) := by decide +kernel
theorem dX10_init_169 : decode cX10_init 169 = .ok (.putfield 71, 3) := by decide +kernel
theorem dX10_init_172 : decode cX10_init 172 = .ok (.aload_n 0, 1) := by decide +kernel
theorem dX10_init_173 : decode cX10_init 173 = .ok (.bipush 30, 2) := by decide +kernel
theorem dX10_init_175 : decode cX10_init 175 = .ok (.newarray .int, 2) := by decide +kernel
theorem dX10_init_177 : decode cX10_init 177 = .ok (.putfield 74, 3) := by decide +kernel
theorem dX10_init_180 : decode cX10_init 180 = .ok (.aload_n 0, 1) := by decide +kernel
theorem dX10_init_181 : decode cX10_init 181 = .ok (.bipush 12, 2) := by decide +kernel
theorem dX10_init_183 : decode cX10_init 183 = .ok (.newarray .int, 2) := by decide +kernel
theorem dX10_init_185 : decode cX10_init 185 = .ok (.putfield 77, 3) := by decide +kernel
theorem dX10_init_188 : decode cX10_init 188 = .ok (.aload_n 0, 1) := by decide +kernel
theorem dX10_init_189 : decode cX10_init 189 = .ok (.iconst 5, 1) := by decide +kernel
theorem dX10_init_190 : decode cX10_init 190 = .ok (.newarray .int, 2) := by decide +kernel
theorem dX10_init_192 : decode cX10_init 192 = .ok (.putfield 80, 3) := by decide +kernel
theorem dX10_init_195 : decode cX10_init 195 = .ok (.aload_n 0, 1) := by decide +kernel
theorem dX10_init_196 : decode cX10_init 196 = .ok (.sipush 200, 3) := by decide +kernel
theorem dX10_init_199 : decode cX10_init 199 = .ok (.newarray .int, 2) := by decide +kernel
theorem dX10_init_201 : decode cX10_init 201 = .ok (.putfield 83, 3) := by decide +kernel
theorem dX10_init_204 : decode cX10_init 204 = .ok (.aload_n 0, 1) := by decide +kernel
theorem dX10_init_205 : decode cX10_init 205 = .ok (.iconst (-1), 1) := by decide +kernel
theorem dX10_init_206 : decode cX10_init 206 = .ok (.putfield 86, 3) := by decide +kernel
theorem dX10_init_209 : decode cX10_init 209 = .ok (.aload_n 0, 1) := by decide +kernel
theorem dX10_init_210 : decode cX10_init 210 = .ok (.bipush 12, 2) := by decide +kernel
theorem dX10_init_212 : decode cX10_init 212 = .ok (.newarray .int, 2) := by decide +kernel
theorem dX10_init_214 : decode cX10_init 214 = .ok (.putfield 90, 3) := by decide +kernel
theorem dX10_init_217 : decode cX10_init 217 = .ok (.aload_n 0, 1) := by decide +kernel
theorem dX10_init_218 : decode cX10_init 218 = .ok (.bipush 12, 2) := by decide +kernel
theorem dX10_init_220 : decode cX10_init 220 = .ok (.newarray .int, 2) := by decide +kernel
theorem dX10_init_222 : decode cX10_init 222 = .ok (.putfield 93, 3) := by decide +kernel
theorem dX10_init_225 : decode cX10_init 225 = .ok (.aload_n 0, 1) := by decide +kernel
theorem dX10_init_226 : decode cX10_init 226 = .ok (.bipush 8, 2) := by decide +kernel
theorem dX10_init_228 : decode cX10_init 228 = .ok (.newarray .int, 2) := by decide +kernel
theorem dX10_init_230 : decode cX10_init 230 = .ok (.putfield 96, 3) := by decide +kernel
theorem dX10_init_233 : decode cX10_init 233 = .ok (.aload_n 0, 1) := by decide +kernel
theorem dX10_init_234 : decode cX10_init 234 = .ok (.iconst 1, 1) := by decide +kernel
theorem dX10_init_235 : decode cX10_init 235 = .ok (.putfield 99, 3) := by decide +kernel
theorem dX10_init_238 : decode cX10_init 238 = .ok (.return_, 1) := by decide +kernel
theorem zb_X10_init : zcB yX10_init cX10_init 1 none 0 := ⟨tw_91, tw_1024, by decide +kernel⟩
def mi_Md_0 (M : zM) : zM := (zs (zmn (zmn (zmn (zs (zmn (zmn (zmn (zmn (zmn (zmn (zmn (zmn (zmn (zmn (zmn (zmn (zmn (zmn (zmn (zmn (zmn (zmn (zmn (zmn (zmn (zmn (zmn (zmn (zmn M 1) 2) 3) 4) 5) 6) 7) 8) 9) 10) 11) 12) 13) 14) 15) 16) 17) 18) 19) 20) 21) 22) 23) 24) 25) 0 32 (-1)) 26) 27) 28) 0 0 1)
def ri_Md_0 (R : zR) : zR := (zrs (zrn (zrs (zrn (zrs (zrn (zrs (zrn (zrs (zrn (zrs (zrn (zrs (zrn (zrs (zrn (zrs (zrn (zrs (zrn (zrs (zrn (zrs (zrn (zrs (zrn (zrs (zrn (zrs (zrn (zrs (zrn (zrs (zrn (zrs (zrn (zrs (zrn (zrs (zrn (zrs (zrn (zrs (zrn (zrs (zrn (zrs (zrn (zrs (zrn (zrs (zrn (zrs (zrn (zrs (zrn R 1) 0 2 1) 2) 0 3 2) 3) 0 4 3) 4) 0 5 4) 5) 0 6 5) 6) 0 7 6) 7) 0 8 7) 8) 0 11 8) 9) 0 12 9) 10) 0 13 10) 11) 0 14 11) 12) 0 15 12) 13) 0 16 13) 14) 0 17 14) 15) 0 18 15) 16) 0 19 16) 17) 0 20 17) 18) 0 21 18) 19) 0 22 19) 20) 0 23 20) 21) 0 24 21) 22) 0 25 22) 23) 0 26 23) 24) 0 27 24) 25) 0 28 25) 26) 0 36 26) 27) 0 37 27) 28) 0 39 28)
theorem nw_Md_0 {R : zR} (h : nW 1 R) : nW 29 (ri_Md_0 R) := (nW_set (nW_new (nW_set (nW_new (nW_set (nW_new (nW_set (nW_new (nW_set (nW_new (nW_set (nW_new (nW_set (nW_new (nW_set (nW_new (nW_set (nW_new (nW_set (nW_new (nW_set (nW_new (nW_set (nW_new (nW_set (nW_new (nW_set (nW_new (nW_set (nW_new (nW_set (nW_new (nW_set (nW_new (nW_set (nW_new (nW_set (nW_new (nW_set (nW_new (nW_set (nW_new (nW_set (nW_new (nW_set (nW_new (nW_set (nW_new (nW_set (nW_new (nW_set (nW_new (nW_set (nW_new (nW_set (nW_new h) (by decide))) (by decide))) (by decide))) (by decide))) (by decide))) (by decide))) (by decide))) (by decide))) (by decide))) (by decide))) (by decide))) (by decide))) (by decide))) (by decide))) (by decide))) (by decide))) (by decide))) (by decide))) (by decide))) (by decide))) (by decide))) (by decide))) (by decide))) (by decide))) (by decide))) (by decide))) (by decide))) (by decide))
set_option maxRecDepth 20000 in
theorem ni_Md_0 (l : Launch) (G : zG) (M : zM) (R : zR) : nC l G 1 28 1815 yX10_init cX10_init 1 [.ref 0] (zLY.take 1) M R (zLY.take 29) (mi_Md_0 M) (ri_Md_0 R) := by
  refine nC.of (by decide) rfl (Nat.le_of_ble_eq_true rfl) ?_
  refine n_aload_n (pc := 0) dX10_init_0 rfl ?_
  refine n_obj (pc := 1) tw_1025 (by decide) rfl dX10_init_1 ?_
  refine n_aload_n (pc := 4) dX10_init_4 rfl ?_
  refine n_bipush (pc := 5) 30 dX10_init_5 (by decide) ?_
  refine n_newa_i (pc := 7) 1 30 rfl (by decide) tw_153 (by decide) (by decide) (by decide) (by decide) (by decide) rfl rfl dX10_init_7 ?_
  refine n_putFR (pc := 9) (q := 2) zk10 rfl rfl tw_1028 rfl rfl (fun _ => ⟨rfl, rfl⟩) (by decide) dX10_init_9 ?_
  refine n_aload_n (pc := 12) dX10_init_12 rfl ?_
  refine n_bipush (pc := 13) 30 dX10_init_13 (by decide) ?_
  refine n_newa_i (pc := 15) 2 30 rfl (by decide) tw_153 (by decide) (by decide) (by decide) (by decide) (by decide) rfl rfl dX10_init_15 ?_
  refine n_putFR (pc := 17) (q := 3) zk10 rfl rfl tw_1029 rfl rfl (fun _ => ⟨rfl, rfl⟩) (by decide) dX10_init_17 ?_
  refine n_aload_n (pc := 20) dX10_init_20 rfl ?_
  refine n_bipush (pc := 21) 12 dX10_init_21 (by decide) ?_
  refine n_newa_i (pc := 23) 3 12 rfl (by decide) tw_153 (by decide) (by decide) (by decide) (by decide) (by decide) rfl rfl dX10_init_23 ?_
  refine n_putFR (pc := 25) (q := 4) zk10 rfl rfl tw_1030 rfl rfl (fun _ => ⟨rfl, rfl⟩) (by decide) dX10_init_25 ?_
  refine n_aload_n (pc := 28) dX10_init_28 rfl ?_
  refine n_bipush (pc := 29) 12 dX10_init_29 (by decide) ?_
  refine n_newa_i (pc := 31) 4 12 rfl (by decide) tw_153 (by decide) (by decide) (by decide) (by decide) (by decide) rfl rfl dX10_init_31 ?_
  refine n_putFR (pc := 33) (q := 5) zk10 rfl rfl tw_1031 rfl rfl (fun _ => ⟨rfl, rfl⟩) (by decide) dX10_init_33 ?_
  refine n_aload_n (pc := 36) dX10_init_36 rfl ?_
  refine n_bipush (pc := 37) 12 dX10_init_37 (by decide) ?_
  refine n_newa_i (pc := 39) 5 12 rfl (by decide) tw_153 (by decide) (by decide) (by decide) (by decide) (by decide) rfl rfl dX10_init_39 ?_
  refine n_putFR (pc := 41) (q := 6) zk10 rfl rfl tw_1032 rfl rfl (fun _ => ⟨rfl, rfl⟩) (by decide) dX10_init_41 ?_
  refine n_aload_n (pc := 44) dX10_init_44 rfl ?_
  refine n_bipush (pc := 45) 12 dX10_init_45 (by decide) ?_
  refine n_newa_i (pc := 47) 6 12 rfl (by decide) tw_153 (by decide) (by decide) (by decide) (by decide) (by decide) rfl rfl dX10_init_47 ?_
  refine n_putFR (pc := 49) (q := 7) zk10 rfl rfl tw_1033 rfl rfl (fun _ => ⟨rfl, rfl⟩) (by decide) dX10_init_49 ?_
  refine n_aload_n (pc := 52) dX10_init_52 rfl ?_
  refine n_bipush (pc := 53) 12 dX10_init_53 (by decide) ?_
  refine n_newa_i (pc := 55) 7 12 rfl (by decide) tw_153 (by decide) (by decide) (by decide) (by decide) (by decide) rfl rfl dX10_init_55 ?_
  refine n_putFR (pc := 57) (q := 8) zk10 rfl rfl tw_1034 rfl rfl (fun _ => ⟨rfl, rfl⟩) (by decide) dX10_init_57 ?_
  refine n_aload_n (pc := 60) dX10_init_60 rfl ?_
  refine n_bipush (pc := 61) 12 dX10_init_61 (by decide) ?_
  refine n_newa_i (pc := 63) 8 12 rfl (by decide) tw_153 (by decide) (by decide) (by decide) (by decide) (by decide) rfl rfl dX10_init_63 ?_
  refine n_putFR (pc := 65) (q := 11) zk10 rfl rfl tw_1037 rfl rfl (fun _ => ⟨rfl, rfl⟩) (by decide) dX10_init_65 ?_
  refine n_aload_n (pc := 68) dX10_init_68 rfl ?_
  refine n_bipush (pc := 69) 12 dX10_init_69 (by decide) ?_
  refine n_newa_i (pc := 71) 9 12 rfl (by decide) tw_153 (by decide) (by decide) (by decide) (by decide) (by decide) rfl rfl dX10_init_71 ?_
  refine n_putFR (pc := 73) (q := 12) zk10 rfl rfl tw_1038 rfl rfl (fun _ => ⟨rfl, rfl⟩) (by decide) dX10_init_73 ?_
  refine n_aload_n (pc := 76) dX10_init_76 rfl ?_
  refine n_bipush (pc := 77) 12 dX10_init_77 (by decide) ?_
  refine n_newa_i (pc := 79) 10 12 rfl (by decide) tw_153 (by decide) (by decide) (by decide) (by decide) (by decide) rfl rfl dX10_init_79 ?_
  refine n_putFR (pc := 81) (q := 13) zk10 rfl rfl tw_1039 rfl rfl (fun _ => ⟨rfl, rfl⟩) (by decide) dX10_init_81 ?_
  refine n_aload_n (pc := 84) dX10_init_84 rfl ?_
  refine n_bipush (pc := 85) 12 dX10_init_85 (by decide) ?_
  refine n_newa_i (pc := 87) 11 12 rfl (by decide) tw_153 (by decide) (by decide) (by decide) (by decide) (by decide) rfl rfl dX10_init_87 ?_
  refine n_putFR (pc := 89) (q := 14) zk10 rfl rfl tw_1040 rfl rfl (fun _ => ⟨rfl, rfl⟩) (by decide) dX10_init_89 ?_
  refine n_aload_n (pc := 92) dX10_init_92 rfl ?_
  refine n_bipush (pc := 93) 12 dX10_init_93 (by decide) ?_
  refine n_newa_i (pc := 95) 12 12 rfl (by decide) tw_153 (by decide) (by decide) (by decide) (by decide) (by decide) rfl rfl dX10_init_95 ?_
  refine n_putFR (pc := 97) (q := 15) zk10 rfl rfl tw_1041 rfl rfl (fun _ => ⟨rfl, rfl⟩) (by decide) dX10_init_97 ?_
  refine n_aload_n (pc := 100) dX10_init_100 rfl ?_
  refine n_sipush (pc := 101) 312 dX10_init_101 (by decide) ?_
  refine n_newa_i (pc := 104) 13 312 rfl (by decide) tw_153 (by decide) (by decide) (by decide) (by decide) (by decide) rfl rfl dX10_init_104 ?_
  refine n_putFR (pc := 106) (q := 16) zk10 rfl rfl tw_1042 rfl rfl (fun _ => ⟨rfl, rfl⟩) (by decide) dX10_init_106 ?_
  refine n_aload_n (pc := 109) dX10_init_109 rfl ?_
  refine n_bipush (pc := 110) 12 dX10_init_110 (by decide) ?_
  refine n_newa_i (pc := 112) 14 12 rfl (by decide) tw_153 (by decide) (by decide) (by decide) (by decide) (by decide) rfl rfl dX10_init_112 ?_
  refine n_putFR (pc := 114) (q := 17) zk10 rfl rfl tw_1043 rfl rfl (fun _ => ⟨rfl, rfl⟩) (by decide) dX10_init_114 ?_
  refine n_aload_n (pc := 117) dX10_init_117 rfl ?_
  refine n_bipush (pc := 118) 12 dX10_init_118 (by decide) ?_
  refine n_newa_i (pc := 120) 15 12 rfl (by decide) tw_153 (by decide) (by decide) (by decide) (by decide) (by decide) rfl rfl dX10_init_120 ?_
  refine n_putFR (pc := 122) (q := 18) zk10 rfl rfl tw_1044 rfl rfl (fun _ => ⟨rfl, rfl⟩) (by decide) dX10_init_122 ?_
  refine n_aload_n (pc := 125) dX10_init_125 rfl ?_
  refine n_bipush (pc := 126) 6 dX10_init_126 (by decide) ?_
  refine n_newa_i (pc := 128) 16 6 rfl (by decide) tw_153 (by decide) (by decide) (by decide) (by decide) (by decide) rfl rfl dX10_init_128 ?_
  refine n_putFR (pc := 130) (q := 19) zk10 rfl rfl tw_1045 rfl rfl (fun _ => ⟨rfl, rfl⟩) (by decide) dX10_init_130 ?_
  refine n_aload_n (pc := 133) dX10_init_133 rfl ?_
  refine n_iconst (pc := 134) 3 dX10_init_134 (by decide) ?_
  refine n_newa_z (pc := 135) 17 3 rfl (by decide) tw_1147 (by decide) (by decide) (by decide) (by decide) (by decide) rfl rfl dX10_init_135 ?_
  refine n_putFR (pc := 137) (q := 20) zk10 rfl rfl tw_1046 rfl rfl (fun _ => ⟨rfl, rfl⟩) (by decide) dX10_init_137 ?_
  refine n_aload_n (pc := 140) dX10_init_140 rfl ?_
  refine n_iconst (pc := 141) 3 dX10_init_141 (by decide) ?_
  refine n_newa_i (pc := 142) 18 3 rfl (by decide) tw_153 (by decide) (by decide) (by decide) (by decide) (by decide) rfl rfl dX10_init_142 ?_
  refine n_putFR (pc := 144) (q := 21) zk10 rfl rfl tw_1047 rfl rfl (fun _ => ⟨rfl, rfl⟩) (by decide) dX10_init_144 ?_
  refine n_aload_n (pc := 147) dX10_init_147 rfl ?_
  refine n_bipush (pc := 148) 36 dX10_init_148 (by decide) ?_
  refine n_newa_i (pc := 150) 19 36 rfl (by decide) tw_153 (by decide) (by decide) (by decide) (by decide) (by decide) rfl rfl dX10_init_150 ?_
  refine n_putFR (pc := 152) (q := 22) zk10 rfl rfl tw_1048 rfl rfl (fun _ => ⟨rfl, rfl⟩) (by decide) dX10_init_152 ?_
  refine n_aload_n (pc := 155) dX10_init_155 rfl ?_
  refine n_sipush (pc := 156) 936 dX10_init_156 (by decide) ?_
  refine n_newa_i (pc := 159) 20 936 rfl (by decide) tw_153 (by decide) (by decide) (by decide) (by decide) (by decide) rfl rfl dX10_init_159 ?_
  refine n_putFR (pc := 161) (q := 23) zk10 rfl rfl tw_1049 rfl rfl (fun _ => ⟨rfl, rfl⟩) (by decide) dX10_init_161 ?_
  refine n_aload_n (pc := 164) dX10_init_164 rfl ?_
  refine n_bipush (pc := 165) 36 dX10_init_165 (by decide) ?_
  refine n_newa_i (pc := 167) 21 36 rfl (by decide) tw_153 (by decide) (by decide) (by decide) (by decide) (by decide) rfl rfl dX10_init_167 ?_
  refine n_putFR (pc := 169) (q := 24) zk10 rfl rfl tw_1050 rfl rfl (fun _ => ⟨rfl, rfl⟩) (by decide) dX10_init_169 ?_
  refine n_aload_n (pc := 172) dX10_init_172 rfl ?_
  refine n_bipush (pc := 173) 30 dX10_init_173 (by decide) ?_
  refine n_newa_i (pc := 175) 22 30 rfl (by decide) tw_153 (by decide) (by decide) (by decide) (by decide) (by decide) rfl rfl dX10_init_175 ?_
  refine n_putFR (pc := 177) (q := 25) zk10 rfl rfl tw_1051 rfl rfl (fun _ => ⟨rfl, rfl⟩) (by decide) dX10_init_177 ?_
  refine n_aload_n (pc := 180) dX10_init_180 rfl ?_
  refine n_bipush (pc := 181) 12 dX10_init_181 (by decide) ?_
  refine n_newa_i (pc := 183) 23 12 rfl (by decide) tw_153 (by decide) (by decide) (by decide) (by decide) (by decide) rfl rfl dX10_init_183 ?_
  refine n_putFR (pc := 185) (q := 26) zk10 rfl rfl tw_1052 rfl rfl (fun _ => ⟨rfl, rfl⟩) (by decide) dX10_init_185 ?_
  refine n_aload_n (pc := 188) dX10_init_188 rfl ?_
  refine n_iconst (pc := 189) 5 dX10_init_189 (by decide) ?_
  refine n_newa_i (pc := 190) 24 5 rfl (by decide) tw_153 (by decide) (by decide) (by decide) (by decide) (by decide) rfl rfl dX10_init_190 ?_
  refine n_putFR (pc := 192) (q := 27) zk10 rfl rfl tw_1053 rfl rfl (fun _ => ⟨rfl, rfl⟩) (by decide) dX10_init_192 ?_
  refine n_aload_n (pc := 195) dX10_init_195 rfl ?_
  refine n_sipush (pc := 196) 200 dX10_init_196 (by decide) ?_
  refine n_newa_i (pc := 199) 25 200 rfl (by decide) tw_153 (by decide) (by decide) (by decide) (by decide) (by decide) rfl rfl dX10_init_199 ?_
  refine n_putFR (pc := 201) (q := 28) zk10 rfl rfl tw_1054 rfl rfl (fun _ => ⟨rfl, rfl⟩) (by decide) dX10_init_201 ?_
  refine n_aload_n (pc := 204) dX10_init_204 rfl ?_
  refine n_iconst (pc := 205) (-1) dX10_init_205 (by decide) ?_
  refine n_putI (pc := 206) (q := 32) zk10 rfl rfl tw_1058 rfl rfl rfl dX10_init_206 ?_
  refine n_aload_n (pc := 209) dX10_init_209 rfl ?_
  refine n_bipush (pc := 210) 12 dX10_init_210 (by decide) ?_
  refine n_newa_i (pc := 212) 26 12 rfl (by decide) tw_153 (by decide) (by decide) (by decide) (by decide) (by decide) rfl rfl dX10_init_212 ?_
  refine n_putFR (pc := 214) (q := 36) zk10 rfl rfl tw_1062 rfl rfl (fun _ => ⟨rfl, rfl⟩) (by decide) dX10_init_214 ?_
  refine n_aload_n (pc := 217) dX10_init_217 rfl ?_
  refine n_bipush (pc := 218) 12 dX10_init_218 (by decide) ?_
  refine n_newa_i (pc := 220) 27 12 rfl (by decide) tw_153 (by decide) (by decide) (by decide) (by decide) (by decide) rfl rfl dX10_init_220 ?_
  refine n_putFR (pc := 222) (q := 37) zk10 rfl rfl tw_1063 rfl rfl (fun _ => ⟨rfl, rfl⟩) (by decide) dX10_init_222 ?_
  refine n_aload_n (pc := 225) dX10_init_225 rfl ?_
  refine n_bipush (pc := 226) 8 dX10_init_226 (by decide) ?_
  refine n_newa_i (pc := 228) 28 8 rfl (by decide) tw_153 (by decide) (by decide) (by decide) (by decide) (by decide) rfl rfl dX10_init_228 ?_
  refine n_putFR (pc := 230) (q := 39) zk10 rfl rfl tw_1065 rfl rfl (fun _ => ⟨rfl, rfl⟩) (by decide) dX10_init_230 ?_
  refine n_aload_n (pc := 233) dX10_init_233 rfl ?_
  refine n_iconst (pc := 234) 1 dX10_init_234 (by decide) ?_
  refine n_putI (pc := 235) (q := 0) zk10 rfl rfl tw_1026 rfl rfl rfl dX10_init_235 ?_
  exact n_vret (pc := 238) dX10_init_238 (by decide) (by decide) rfl rfl rfl
