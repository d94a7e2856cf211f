theorem dJ3_checkIndex_8e157_0 : decode cJ3_checkIndex_8e157 0 = .ok (.iload_n 0, 1) := by decide +kernel
theorem dJ3_checkIndex_8e157_1 : decode cJ3_checkIndex_8e157 1 = .ok (.ifCond .lt 8, 3) := by decide +kernel
theorem dJ3_checkIndex_8e157_4 : decode cJ3_checkIndex_8e157 4 = .ok (.iload_n 0, 1) := by decide +kernel
theorem dJ3_checkIndex_8e157_5 : decode cJ3_checkIndex_8e157 5 = .ok (.iload_n 1, 1) := by decide +kernel
theorem dJ3_checkIndex_8e157_6 : decode cJ3_checkIndex_8e157 6 = .ok (.if_icmp .lt 10, 3) := by decide +kernel
theorem dJ3_checkIndex_8e157_9 : decode cJ3_checkIndex_8e157 9 = .ok (.aload_n 2, 1) := by decide +kernel
theorem dJ3_checkIndex_8e157_10 : decode cJ3_checkIndex_8e157 10 = .ok (.iload_n 0, 1) := by decide +kernel
theorem dJ3_checkIndex_8e157_11 : decode cJ3_checkIndex_8e157 11 = .ok (.iload_n 1, 1) := by decide +kernel
theorem dJ3_checkIndex_8e157_12 : decode cJ3_checkIndex_8e157 12 = .ok (.invokestatic 95, 3) := by decide +kernel
theorem dJ3_checkIndex_8e157_15 : decode cJ3_checkIndex_8e157 15 = .ok (.athrow, 1) := by decide +kernel
theorem dJ3_checkIndex_8e157_16 : decode cJ3_checkIndex_8e157 16 = .ok (.iload_n 0, 1) := by decide +kernel
theorem dJ3_checkIndex_8e157_17 : decode cJ3_checkIndex_8e157 17 = .ok (.ireturn, 1) := by decide +kernel
theorem dJ0_checkIndex_df160_0 : decode cJ0_checkIndex_df160 0 = .ok (.iload_n 0, 1) := by decide +kernel
theorem dJ0_checkIndex_df160_1 : decode cJ0_checkIndex_df160 1 = .ok (.iload_n 1, 1) := by decide +kernel
theorem dJ0_checkIndex_df160_2 : decode cJ0_checkIndex_df160 2 = .ok (.getstatic 1053, 3) := by decide +kernel
theorem dJ0_checkIndex_df160_5 : decode cJ0_checkIndex_df160 5 = .ok (.invokestatic 1059, 3) := by decide +kernel
theorem dJ0_checkIndex_df160_8 : decode cJ0_checkIndex_df160 8 = .ok (.pop, 1) := by decide +kernel
theorem dJ0_checkIndex_df160_9 : decode cJ0_checkIndex_df160 9 = .ok (.return_, 1) := by decide +kernel
theorem wJ3_checkIndex (l : Launch) (G : zG) (v0 v1 : Int32) (v : Value) (M : zM) : zV eI l G zLX zRX 1 yJ3_checkIndex_8e157 cJ3_checkIndex_8e157 3 (some .int) 0 [(0, .int v0), (1, .int v1), (2, v)] [] M (fJ3_checkIndex v0 v1 M) := by
  rw [fJ3_checkIndex]
  refine v_iload_n (pc := 0) dJ3_checkIndex_8e157_0 rfl ?_
  refine v_if_lt (pc := 1) 9 dJ3_checkIndex_8e157_1 (by decide) ?_ ?_
  · exact v_none
  · refine v_iload_n (pc := 4) dJ3_checkIndex_8e157_4 rfl ?_
    refine v_iload_n (pc := 5) dJ3_checkIndex_8e157_5 rfl ?_
    refine v_icmp_lt (pc := 6) 16 dJ3_checkIndex_8e157_6 (by decide) ?_ ?_
    · refine v_iload_n (pc := 16) dJ3_checkIndex_8e157_16 rfl ?_
      exact v_iret (pc := 17) dJ3_checkIndex_8e157_17
    · exact v_none
theorem cJ3_checkIndex (l : Launch) (G : zG) (v0 v1 : Int32) (v : Value) (hv : v.category = 1) (M : zM) : zC eI l G zLX zRX 1 yJ3_checkIndex_8e157 cJ3_checkIndex_8e157 3 (some .int) [.int v0, .int v1, v] M (fJ3_checkIndex v0 v1 M) := by
  have h0 : ∀ x : Int32, (Value.int x).category = 1 := fun _ => rfl
  exact zC.of (av := [.int v0, .int v1, v]) (by decide) (by simp [lg_sl, hv, h0]) (wJ3_checkIndex l G v0 v1 v M)
theorem cJ0_checkIndex (l : Launch) (G : zG) (v0 v1 : Int32) (M : zM) : zC eV l G zLX zRX 2 yJ0_checkIndex_df160 cJ0_checkIndex_df160 2 none [.int v0, .int v1] M (fJ0_checkIndex v0 v1 M) := by
  refine zC.of (by decide) (Nat.le_of_ble_eq_true rfl) ?_
  show zV eV l G zLX zRX 2 yJ0_checkIndex_df160 cJ0_checkIndex_df160 2 none 0 [(0, .int v0), (1, .int v1)] [] M (cl (fJ3_checkIndex v0 v1 M) fun _ M1 => some ((), M1))
  refine v_iload_n (pc := 0) dJ0_checkIndex_df160_0 rfl ?_
  refine v_iload_n (pc := 1) dJ0_checkIndex_df160_1 rfl ?_
  refine v_getF (pc := 2) tw_962 dJ0_checkIndex_df160_2 (fun v hv => ?_)
  refine v_callS (pc := 5) (As := [.int v0, .int v1, v]) (cJ3_checkIndex l G v0 v1 v hv M) zc_J3_checkIndex_8e157 tw_964 (by decide) (Nat.le_of_ble_eq_true rfl) dJ0_checkIndex_df160_5 (fun r M1 => ?_)
  refine v_pop (pc := 8) dJ0_checkIndex_df160_8 rfl ?_
  exact v_vret (pc := 9) dJ0_checkIndex_df160_9
theorem dJ7_fill_53178_0 : decode cJ7_fill_53178 0 = .ok (.iconst 0, 1) := by decide +kernel
theorem dJ7_fill_53178_1 : decode cJ7_fill_53178 1 = .ok (.istore_n 2, 1) := by decide +kernel
theorem dJ7_fill_53178_2 : decode cJ7_fill_53178 2 = .ok (.aload_n 0, 1) := by decide +kernel
theorem dJ7_fill_53178_3 : decode cJ7_fill_53178 3 = .ok (.arraylength, 1) := by decide +kernel
theorem dJ7_fill_53178_4 : decode cJ7_fill_53178 4 = .ok (.istore_n 3, 1) := by decide +kernel
theorem dJ7_fill_53178_5 : decode cJ7_fill_53178 5 = .ok (.iload_n 2, 1) := by decide +kernel
theorem dJ7_fill_53178_6 : decode cJ7_fill_53178 6 = .ok (.iload_n 3, 1) := by decide +kernel
theorem dJ7_fill_53178_7 : decode cJ7_fill_53178 7 = .ok (.if_icmp .ge 13, 3) := by decide +kernel
theorem dJ7_fill_53178_10 : decode cJ7_fill_53178 10 = .ok (.aload_n 0, 1) := by decide +kernel
theorem dJ7_fill_53178_11 : decode cJ7_fill_53178 11 = .ok (.iload_n 2, 1) := by decide +kernel
theorem dJ7_fill_53178_12 : decode cJ7_fill_53178 12 = .ok (.iload_n 1, 1) := by decide +kernel
theorem dJ7_fill_53178_13 : decode cJ7_fill_53178 13 = .ok (.iastore, 1) := by decide +kernel
theorem dJ7_fill_53178_14 : decode cJ7_fill_53178 14 = .ok (.iinc 2 1, 3) := by decide +kernel
theorem dJ7_fill_53178_17 : decode cJ7_fill_53178 17 = .ok (.goto (-12), 3) := by decide +kernel
theorem dJ7_fill_53178_20 : decode cJ7_fill_53178 20 = .ok (.return_, 1) := by decide +kernel
theorem wJ7_fill_5 (l : Launch) (G : zG) : ∀ (fuel : Nat) (c0 : Nat) (n0 : Nat) (hc0 : zLX[c0]? = some (100, n0)) (v1 : Int32) (v2 : Int32) (v3 : Int32) (M : zM), zV eV l G zLX zRX 1 yJ7_fill_53178 cJ7_fill_53178 4 none 5 [(0, .ref c0), (1, .int v1), (2, .int v2), (3, .int v3)] [] M (fJ7_fill_5 fuel c0 n0 v1 v2 v3 M) := by
  intro fuel
  induction fuel with
  | zero => intro c0 n0 hc0 v1 v2 v3 M; exact v_none
  | succ fuel ih =>
    intro c0 n0 hc0 v1 v2 v3 M
    rw [fJ7_fill_5]
    refine v_iload_n (pc := 5) dJ7_fill_53178_5 rfl ?_
    refine v_iload_n (pc := 6) dJ7_fill_53178_6 rfl ?_
    refine v_icmp_ge (pc := 7) 20 dJ7_fill_53178_7 (by decide) ?_ ?_
    · exact v_vret (pc := 20) dJ7_fill_53178_20
    · refine v_aload_n (pc := 10) dJ7_fill_53178_10 rfl ?_
      refine v_iload_n (pc := 11) dJ7_fill_53178_11 rfl ?_
      refine v_iload_n (pc := 12) dJ7_fill_53178_12 rfl ?_
      refine v_iast (pc := 13) hc0 dJ7_fill_53178_13 (fun M1 => ?_)
      refine v_iinc (pc := 14) 1 dJ7_fill_53178_14 rfl (by decide) (by decide) ?_
      refine v_goto (pc := 17) 5 dJ7_fill_53178_17 (by decide) ?_
      exact v_sub (ih c0 n0 hc0 v1 (v2 + 1) v3 M1) rfl
theorem wJ7_fill (l : Launch) (G : zG) (c0 : Nat) (n0 : Nat) (hc0 : zLX[c0]? = some (100, n0)) (v1 : Int32) (M : zM) : zV eV l G zLX zRX 1 yJ7_fill_53178 cJ7_fill_53178 4 none 0 [(0, .ref c0), (1, .int v1)] [] M (fJ7_fill c0 n0 v1 M) := by
  rw [fJ7_fill]
  refine v_iconst (pc := 0) 0 dJ7_fill_53178_0 (by decide) ?_
  refine v_istore_n (pc := 1) dJ7_fill_53178_1 (by decide) ?_
  refine v_aload_n (pc := 2) dJ7_fill_53178_2 rfl ?_
  refine v_alen (pc := 3) (nI n0) hc0 rfl dJ7_fill_53178_3 ?_
  refine v_istore_nL (pc := 4) dJ7_fill_53178_4 (by decide) (fun u3_4 => ?_)
  exact v_sub (wJ7_fill_5 l G FU c0 n0 hc0 v1 0 u3_4 M) rfl
theorem cJ7_fill (l : Launch) (G : zG) (c0 : Nat) (n0 : Nat) (hc0 : zLX[c0]? = some (100, n0)) (v1 : Int32) (M : zM) : zC eV l G zLX zRX 1 yJ7_fill_53178 cJ7_fill_53178 4 none [.ref c0, .int v1] M (fJ7_fill c0 n0 v1 M) := zC.of (by decide) (Nat.le_of_ble_eq_true rfl) (v_sub (wJ7_fill l G c0 n0 hc0 v1 M) rfl)
theorem dJ6_bitCount_0f7a4_0 : decode cJ6_bitCount_0f7a4 0 = .ok (.iload_n 0, 1) := by decide +kernel
theorem dJ6_bitCount_0f7a4_1 : decode cJ6_bitCount_0f7a4 1 = .ok (.iload_n 0, 1) := by decide +kernel
theorem dJ6_bitCount_0f7a4_2 : decode cJ6_bitCount_0f7a4 2 = .ok (.iconst 1, 1) := by decide +kernel
theorem dJ6_bitCount_0f7a4_3 : decode cJ6_bitCount_0f7a4 3 = .ok (.iushr, 1) := by decide +kernel
theorem dJ6_bitCount_0f7a4_4 : decode cJ6_bitCount_0f7a4 4 = .ok (.ldc_w 265, 3) := by decide +kernel
theorem dJ6_bitCount_0f7a4_7 : decode cJ6_bitCount_0f7a4 7 = .ok (.iand, 1) := by decide +kernel
theorem dJ6_bitCount_0f7a4_8 : decode cJ6_bitCount_0f7a4 8 = .ok (.isub, 1) := by decide +kernel
theorem dJ6_bitCount_0f7a4_9 : decode cJ6_bitCount_0f7a4 9 = .ok (.istore_n 0, 1) := by decide +kernel
theorem dJ6_bitCount_0f7a4_10 : decode cJ6_bitCount_0f7a4 10 = .ok (.iload_n 0, 1) := by decide +kernel
theorem dJ6_bitCount_0f7a4_11 : decode cJ6_bitCount_0f7a4 11 = .ok (.ldc_w 266, 3) := by decide +kernel
theorem dJ6_bitCount_0f7a4_14 : decode cJ6_bitCount_0f7a4 14 = .ok (.iand, 1) := by decide +kernel
theorem dJ6_bitCount_0f7a4_15 : decode cJ6_bitCount_0f7a4 15 = .ok (.iload_n 0, 1) := by decide +kernel
theorem dJ6_bitCount_0f7a4_16 : decode cJ6_bitCount_0f7a4 16 = .ok (.iconst 2, 1) := by decide +kernel
theorem dJ6_bitCount_0f7a4_17 : decode cJ6_bitCount_0f7a4 17 = .ok (.iushr, 1) := by decide +kernel
theorem dJ6_bitCount_0f7a4_18 : decode cJ6_bitCount_0f7a4 18 = .ok (.ldc_w 266, 3) := by decide +kernel
theorem dJ6_bitCount_0f7a4_21 : decode cJ6_bitCount_0f7a4 21 = .ok (.iand, 1) := by decide +kernel
theorem dJ6_bitCount_0f7a4_22 : decode cJ6_bitCount_0f7a4 22 = .ok (.iadd, 1) := by decide +kernel
theorem dJ6_bitCount_0f7a4_23 : decode cJ6_bitCount_0f7a4 23 = .ok (.istore_n 0, 1) := by decide +kernel
theorem dJ6_bitCount_0f7a4_24 : decode cJ6_bitCount_0f7a4 24 = .ok (.iload_n 0, 1) := by decide +kernel
theorem dJ6_bitCount_0f7a4_25 : decode cJ6_bitCount_0f7a4 25 = .ok (.iload_n 0, 1) := by decide +kernel
theorem dJ6_bitCount_0f7a4_26 : decode cJ6_bitCount_0f7a4 26 = .ok (.iconst 4, 1) := by decide +kernel
theorem dJ6_bitCount_0f7a4_27 : decode cJ6_bitCount_0f7a4 27 = .ok (.iushr, 1) := by decide +kernel
theorem dJ6_bitCount_0f7a4_28 : decode cJ6_bitCount_0f7a4 28 = .ok (.iadd, 1) := by decide +kernel
theorem dJ6_bitCount_0f7a4_29 : decode cJ6_bitCount_0f7a4 29 = .ok (.ldc_w 267, 3) := by decide +kernel
theorem dJ6_bitCount_0f7a4_32 : decode cJ6_bitCount_0f7a4 32 = .ok (.iand, 1) := by decide +kernel
theorem dJ6_bitCount_0f7a4_33 : decode cJ6_bitCount_0f7a4 33 = .ok (.istore_n 0, 1) := by decide +kernel
theorem dJ6_bitCount_0f7a4_34 : decode cJ6_bitCount_0f7a4 34 = .ok (.iload_n 0, 1) := by decide +kernel
theorem dJ6_bitCount_0f7a4_35 : decode cJ6_bitCount_0f7a4 35 = .ok (.iload_n 0, 1) := by decide +kernel
theorem dJ6_bitCount_0f7a4_36 : decode cJ6_bitCount_0f7a4 36 = .ok (.bipush 8, 2) := by decide +kernel
theorem dJ6_bitCount_0f7a4_38 : decode cJ6_bitCount_0f7a4 38 = .ok (.iushr, 1) := by decide +kernel
theorem dJ6_bitCount_0f7a4_39 : decode cJ6_bitCount_0f7a4 39 = .ok (.iadd, 1) := by decide +kernel
theorem dJ6_bitCount_0f7a4_40 : decode cJ6_bitCount_0f7a4 40 = .ok (.istore_n 0, 1) := by decide +kernel
theorem dJ6_bitCount_0f7a4_41 : decode cJ6_bitCount_0f7a4 41 = .ok (.iload_n 0, 1) := by decide +kernel
theorem dJ6_bitCount_0f7a4_42 : decode cJ6_bitCount_0f7a4 42 = .ok (.iload_n 0, 1) := by decide +kernel
theorem dJ6_bitCount_0f7a4_43 : decode cJ6_bitCount_0f7a4 43 = .ok (.bipush 16, 2) := by decide +kernel
theorem dJ6_bitCount_0f7a4_45 : decode cJ6_bitCount_0f7a4 45 = .ok (.iushr, 1) := by decide +kernel
theorem dJ6_bitCount_0f7a4_46 : decode cJ6_bitCount_0f7a4 46 = .ok (.iadd, 1) := by decide +kernel
theorem dJ6_bitCount_0f7a4_47 : decode cJ6_bitCount_0f7a4 47 = .ok (.istore_n 0, 1) := by decide +kernel
theorem dJ6_bitCount_0f7a4_48 : decode cJ6_bitCount_0f7a4 48 = .ok (.iload_n 0, 1) := by decide +kernel
theorem dJ6_bitCount_0f7a4_49 : decode cJ6_bitCount_0f7a4 49 = .ok (.bipush 63, 2) := by decide +kernel
theorem dJ6_bitCount_0f7a4_51 : decode cJ6_bitCount_0f7a4 51 = .ok (.iand, 1) := by decide +kernel
theorem dJ6_bitCount_0f7a4_52 : decode cJ6_bitCount_0f7a4 52 = .ok (.ireturn, 1) := by decide +kernel
theorem wJ6_bitCount (l : Launch) (G : zG) (v0 : Int32) (M : zM) : zV eI l G zLX zRX 1 yJ6_bitCount_0f7a4 cJ6_bitCount_0f7a4 1 (some .int) 0 [(0, .int v0)] [] M (fJ6_bitCount v0 M) := by
  rw [fJ6_bitCount]
  refine v_iload_n (pc := 0) dJ6_bitCount_0f7a4_0 rfl ?_
  refine v_iload_n (pc := 1) dJ6_bitCount_0f7a4_1 rfl ?_
  refine v_iconst (pc := 2) 1 dJ6_bitCount_0f7a4_2 (by decide) ?_
  refine v_iushr (pc := 3) dJ6_bitCount_0f7a4_3 ?_
  refine v_ldcw (pc := 4) 1431655765 tw_556 dJ6_bitCount_0f7a4_4 ?_
  refine v_iand (pc := 7) dJ6_bitCount_0f7a4_7 ?_
  refine v_isub (pc := 8) dJ6_bitCount_0f7a4_8 ?_
  refine v_istore_nL (pc := 9) dJ6_bitCount_0f7a4_9 (by decide) (fun u0_9 => ?_)
  refine v_iload_n (pc := 10) dJ6_bitCount_0f7a4_10 rfl ?_
  refine v_ldcw (pc := 11) 858993459 tw_557 dJ6_bitCount_0f7a4_11 ?_
  refine v_iand (pc := 14) dJ6_bitCount_0f7a4_14 ?_
  refine v_iload_n (pc := 15) dJ6_bitCount_0f7a4_15 rfl ?_
  refine v_iconst (pc := 16) 2 dJ6_bitCount_0f7a4_16 (by decide) ?_
  refine v_iushr (pc := 17) dJ6_bitCount_0f7a4_17 ?_
  refine v_ldcw (pc := 18) 858993459 tw_557 dJ6_bitCount_0f7a4_18 ?_
  refine v_iand (pc := 21) dJ6_bitCount_0f7a4_21 ?_
  refine v_iadd (pc := 22) dJ6_bitCount_0f7a4_22 ?_
  refine v_istore_nL (pc := 23) dJ6_bitCount_0f7a4_23 (by decide) (fun u0_23 => ?_)
  refine v_iload_n (pc := 24) dJ6_bitCount_0f7a4_24 rfl ?_
  refine v_iload_n (pc := 25) dJ6_bitCount_0f7a4_25 rfl ?_
  refine v_iconst (pc := 26) 4 dJ6_bitCount_0f7a4_26 (by decide) ?_
  refine v_iushr (pc := 27) dJ6_bitCount_0f7a4_27 ?_
  refine v_iadd (pc := 28) dJ6_bitCount_0f7a4_28 ?_
  refine v_ldcw (pc := 29) 252645135 tw_558 dJ6_bitCount_0f7a4_29 ?_
  refine v_iand (pc := 32) dJ6_bitCount_0f7a4_32 ?_
  refine v_istore_nL (pc := 33) dJ6_bitCount_0f7a4_33 (by decide) (fun u0_33 => ?_)
  refine v_iload_n (pc := 34) dJ6_bitCount_0f7a4_34 rfl ?_
  refine v_iload_n (pc := 35) dJ6_bitCount_0f7a4_35 rfl ?_
  refine v_bipush (pc := 36) 8 dJ6_bitCount_0f7a4_36 (by decide) ?_
  refine v_iushr (pc := 38) dJ6_bitCount_0f7a4_38 ?_
  refine v_iadd (pc := 39) dJ6_bitCount_0f7a4_39 ?_
  refine v_istore_nL (pc := 40) dJ6_bitCount_0f7a4_40 (by decide) (fun u0_40 => ?_)
  refine v_iload_n (pc := 41) dJ6_bitCount_0f7a4_41 rfl ?_
  refine v_iload_n (pc := 42) dJ6_bitCount_0f7a4_42 rfl ?_
  refine v_bipush (pc := 43) 16 dJ6_bitCount_0f7a4_43 (by decide) ?_
  refine v_iushr (pc := 45) dJ6_bitCount_0f7a4_45 ?_
  refine v_iadd (pc := 46) dJ6_bitCount_0f7a4_46 ?_
  refine v_istore_nL (pc := 47) dJ6_bitCount_0f7a4_47 (by decide) (fun u0_47 => ?_)
  refine v_iload_n (pc := 48) dJ6_bitCount_0f7a4_48 rfl ?_
  refine v_bipush (pc := 49) 63 dJ6_bitCount_0f7a4_49 (by decide) ?_
  refine v_iand (pc := 51) dJ6_bitCount_0f7a4_51 ?_
  exact v_iret (pc := 52) dJ6_bitCount_0f7a4_52
theorem cJ6_bitCount (l : Launch) (G : zG) (v0 : Int32) (M : zM) : zC eI l G zLX zRX 1 yJ6_bitCount_0f7a4 cJ6_bitCount_0f7a4 1 (some .int) [.int v0] M (fJ6_bitCount v0 M) := zC.of (by decide) (Nat.le_of_ble_eq_true rfl) (v_sub (wJ6_bitCount l G v0 M) rfl)
theorem dJ0_coder_7d493_0 : decode cJ0_coder_7d493 0 = .ok (.getstatic 38, 3) := by decide +kernel
theorem dJ0_coder_7d493_3 : decode cJ0_coder_7d493 3 = .ok (.ifCond .eq 10, 3) := by decide +kernel
theorem dJ0_coder_7d493_6 : decode cJ0_coder_7d493 6 = .ok (.aload_n 0, 1) := by decide +kernel
theorem dJ0_coder_7d493_7 : decode cJ0_coder_7d493 7 = .ok (.getfield 15, 3) := by decide +kernel
theorem dJ0_coder_7d493_10 : decode cJ0_coder_7d493 10 = .ok (.goto 4, 3) := by decide +kernel
theorem dJ0_coder_7d493_13 : decode cJ0_coder_7d493 13 = .ok (.iconst 1, 1) := by decide +kernel
theorem dJ0_coder_7d493_14 : decode cJ0_coder_7d493 14 = .ok (.ireturn, 1) := by decide +kernel
theorem wJ0_coder (l : Launch) (G : zG) (c0 : Nat) (hc0 : zIsS c0) (M : zM) : zV eI l G zLX zRX 1 yJ0_coder_7d493 cJ0_coder_7d493 1 (some .byte) 0 [(0, .ref c0)] [] M (fJ0_coder c0 M) := by
  rw [fJ0_coder]
  refine v_getZ (pc := 0) tw_946 dJ0_coder_7d493_0 ?_
  refine v_if_eq (pc := 3) 13 dJ0_coder_7d493_3 (by decide) ?_ ?_
  · refine v_iconst (pc := 13) 1 dJ0_coder_7d493_13 (by decide) ?_
    exact v_nret (pc := 14) dJ0_coder_7d493_14
  · refine v_aload_n (pc := 6) dJ0_coder_7d493_6 rfl ?_
    refine v_getSC (pc := 7) hc0 tw_1463 dJ0_coder_7d493_7 ?_
    refine v_goto (pc := 10) 14 dJ0_coder_7d493_10 (by decide) ?_
    exact v_nret (pc := 14) dJ0_coder_7d493_14
theorem cJ0_coder (l : Launch) (G : zG) (c0 : Nat) (hc0 : zIsS c0) (M : zM) : zC eI l G zLX zRX 1 yJ0_coder_7d493 cJ0_coder_7d493 1 (some .byte) [.ref c0] M (fJ0_coder c0 M) := zC.of (by decide) (Nat.le_of_ble_eq_true rfl) (v_sub (wJ0_coder l G c0 hc0 M) rfl)
theorem dJ0_length_8abf5_0 : decode cJ0_length_8abf5 0 = .ok (.aload_n 0, 1) := by decide +kernel
theorem dJ0_length_8abf5_1 : decode cJ0_length_8abf5 1 = .ok (.getfield 9, 3) := by decide +kernel
theorem dJ0_length_8abf5_4 : decode cJ0_length_8abf5 4 = .ok (.arraylength, 1) := by decide +kernel
theorem dJ0_length_8abf5_5 : decode cJ0_length_8abf5 5 = .ok (.aload_n 0, 1) := by decide +kernel
theorem dJ0_length_8abf5_6 : decode cJ0_length_8abf5 6 = .ok (.invokevirtual 335, 3) := by decide +kernel
theorem dJ0_length_8abf5_9 : decode cJ0_length_8abf5 9 = .ok (.ishr, 1) := by decide +kernel
theorem dJ0_length_8abf5_10 : decode cJ0_length_8abf5 10 = .ok (.ireturn, 1) := by decide +kernel
theorem wJ0_length (l : Launch) (G : zG) (c0 : Nat) (hc0 : zIsS c0) (M : zM) : zV eI l G zLX zRX 2 yJ0_length_8abf5 cJ0_length_8abf5 1 (some .int) 0 [(0, .ref c0)] [] M (fJ0_length c0 M) := by
  rw [fJ0_length]
  refine v_aload_n (pc := 0) dJ0_length_8abf5_0 rfl ?_
  refine v_getSV (pc := 1) hc0 tw_1462 dJ0_length_8abf5_1 ?_
  refine v_alenS (pc := 4) (zIsB_of hc0) dJ0_length_8abf5_4 ?_
  refine v_aload_n (pc := 5) dJ0_length_8abf5_5 rfl ?_
  refine v_callT (pc := 6) (As := []) (cJ0_coder l G c0 hc0 M) zc_J0_coder_7d493 rfl hc0 tw_942 (by decide) (Nat.le_of_ble_eq_true rfl) dJ0_length_8abf5_6 (fun r2 M1 => ?_)
  refine v_ishr (pc := 9) dJ0_length_8abf5_9 ?_
  exact v_iret (pc := 10) dJ0_length_8abf5_10
theorem cJ0_length (l : Launch) (G : zG) (c0 : Nat) (hc0 : zIsS c0) (M : zM) : zC eI l G zLX zRX 2 yJ0_length_8abf5 cJ0_length_8abf5 1 (some .int) [.ref c0] M (fJ0_length c0 M) := zC.of (by decide) (Nat.le_of_ble_eq_true rfl) (v_sub (wJ0_length l G c0 hc0 M) rfl)
theorem dJ0_isLatin1_aae02_0 : decode cJ0_isLatin1_aae02 0 = .ok (.getstatic 38, 3) := by decide +kernel
theorem dJ0_isLatin1_aae02_3 : decode cJ0_isLatin1_aae02 3 = .ok (.ifCond .eq 14, 3) := by decide +kernel
theorem dJ0_isLatin1_aae02_6 : decode cJ0_isLatin1_aae02 6 = .ok (.aload_n 0, 1) := by decide +kernel
theorem dJ0_isLatin1_aae02_7 : decode cJ0_isLatin1_aae02 7 = .ok (.getfield 15, 3) := by decide +kernel
theorem dJ0_isLatin1_aae02_10 : decode cJ0_isLatin1_aae02 10 = .ok (.ifCond .ne 7, 3) := by decide +kernel
theorem dJ0_isLatin1_aae02_13 : decode cJ0_isLatin1_aae02 13 = .ok (.iconst 1, 1) := by decide +kernel
theorem dJ0_isLatin1_aae02_14 : decode cJ0_isLatin1_aae02 14 = .ok (.goto 4, 3) := by decide +kernel
theorem dJ0_isLatin1_aae02_17 : decode cJ0_isLatin1_aae02 17 = .ok (.iconst 0, 1) := by decide +kernel
theorem dJ0_isLatin1_aae02_18 : decode cJ0_isLatin1_aae02 18 = .ok (.ireturn, 1) := by decide +kernel
theorem wJ0_isLatin1 (l : Launch) (G : zG) (c0 : Nat) (hc0 : zIsS c0) (M : zM) : zV eI l G zLX zRX 1 yJ0_isLatin1_aae02 cJ0_isLatin1_aae02 1 (some .boolean) 0 [(0, .ref c0)] [] M (fJ0_isLatin1 c0 M) := by
  rw [fJ0_isLatin1]
  refine v_getZ (pc := 0) tw_946 dJ0_isLatin1_aae02_0 ?_
  refine v_if_eq (pc := 3) 17 dJ0_isLatin1_aae02_3 (by decide) ?_ ?_
  · refine v_iconst (pc := 17) 0 dJ0_isLatin1_aae02_17 (by decide) ?_
    exact v_zret (pc := 18) dJ0_isLatin1_aae02_18
  · refine v_aload_n (pc := 6) dJ0_isLatin1_aae02_6 rfl ?_
    refine v_getSC (pc := 7) hc0 tw_1463 dJ0_isLatin1_aae02_7 ?_
    refine v_if_ne (pc := 10) 17 dJ0_isLatin1_aae02_10 (by decide) ?_ ?_
    · refine v_iconst (pc := 17) 0 dJ0_isLatin1_aae02_17 (by decide) ?_
      exact v_zret (pc := 18) dJ0_isLatin1_aae02_18
    · refine v_iconst (pc := 13) 1 dJ0_isLatin1_aae02_13 (by decide) ?_
      refine v_goto (pc := 14) 18 dJ0_isLatin1_aae02_14 (by decide) ?_
      exact v_zret (pc := 18) dJ0_isLatin1_aae02_18
theorem cJ0_isLatin1 (l : Launch) (G : zG) (c0 : Nat) (hc0 : zIsS c0) (M : zM) : zC eI l G zLX zRX 1 yJ0_isLatin1_aae02 cJ0_isLatin1_aae02 1 (some .boolean) [.ref c0] M (fJ0_isLatin1 c0 M) := zC.of (by decide) (Nat.le_of_ble_eq_true rfl) (v_sub (wJ0_isLatin1 l G c0 hc0 M) rfl)
theorem dJ1_charAt_3b067_0 : decode cJ1_charAt_3b067 0 = .ok (.iload_n 1, 1) := by decide +kernel
theorem dJ1_charAt_3b067_1 : decode cJ1_charAt_3b067 1 = .ok (.aload_n 0, 1) := by decide +kernel
theorem dJ1_charAt_3b067_2 : decode cJ1_charAt_3b067 2 = .ok (.arraylength, 1) := by decide +kernel
theorem dJ1_charAt_3b067_3 : decode cJ1_charAt_3b067 3 = .ok (.invokestatic 9, 3) := by decide +kernel
theorem dJ1_charAt_3b067_6 : decode cJ1_charAt_3b067 6 = .ok (.aload_n 0, 1) := by decide +kernel
theorem dJ1_charAt_3b067_7 : decode cJ1_charAt_3b067 7 = .ok (.iload_n 1, 1) := by decide +kernel
theorem dJ1_charAt_3b067_8 : decode cJ1_charAt_3b067 8 = .ok (.baload, 1) := by decide +kernel
theorem dJ1_charAt_3b067_9 : decode cJ1_charAt_3b067 9 = .ok (.sipush 255, 3) := by decide +kernel
theorem dJ1_charAt_3b067_12 : decode cJ1_charAt_3b067 12 = .ok (.iand, 1) := by decide +kernel
theorem dJ1_charAt_3b067_13 : decode cJ1_charAt_3b067 13 = .ok (.i2c, 1) := by decide +kernel
theorem dJ1_charAt_3b067_14 : decode cJ1_charAt_3b067 14 = .ok (.ireturn, 1) := by decide +kernel
theorem wJ1_charAt (l : Launch) (G : zG) (c0 : Nat) (hc0 : zIsB c0) (v1 : Int32) (M : zM) : zV eI l G zLX zRX 3 yJ1_charAt_3b067 cJ1_charAt_3b067 2 (some .char) 0 [(0, .ref c0), (1, .int v1)] [] M (fJ1_charAt c0 v1 M) := by
  rw [fJ1_charAt]
  refine v_iload_n (pc := 0) dJ1_charAt_3b067_0 rfl ?_
  refine v_aload_n (pc := 1) dJ1_charAt_3b067_1 rfl ?_
  refine v_alenS (pc := 2) hc0 dJ1_charAt_3b067_2 ?_
  refine v_callS (pc := 3) (As := [.int v1, .int (zSl c0)]) (cJ0_checkIndex l G v1 (zSl c0) M) zc_J0_checkIndex_df160 tw_959 (by decide) (Nat.le_of_ble_eq_true rfl) dJ1_charAt_3b067_3 (fun _ M1 => ?_)
  skip
  refine v_aload_n (pc := 6) dJ1_charAt_3b067_6 rfl ?_
  refine v_iload_n (pc := 7) dJ1_charAt_3b067_7 rfl ?_
  refine v_baldS (pc := 8) hc0 dJ1_charAt_3b067_8 (fun x2 => ?_)
  refine v_sipush (pc := 9) 255 dJ1_charAt_3b067_9 (by decide) ?_
  refine v_iand (pc := 12) dJ1_charAt_3b067_12 ?_
  refine v_i2c (pc := 13) dJ1_charAt_3b067_13 ?_
  exact v_nret (pc := 14) dJ1_charAt_3b067_14
theorem cJ1_charAt (l : Launch) (G : zG) (c0 : Nat) (hc0 : zIsB c0) (v1 : Int32) (M : zM) : zC eI l G zLX zRX 3 yJ1_charAt_3b067 cJ1_charAt_3b067 2 (some .char) [.ref c0, .int v1] M (fJ1_charAt c0 v1 M) := zC.of (by decide) (Nat.le_of_ble_eq_true rfl) (v_sub (wJ1_charAt l G c0 hc0 v1 M) rfl)
theorem dJ0_charAt_5068e_0 : decode cJ0_charAt_5068e 0 = .ok (.aload_n 0, 1) := by decide +kernel
theorem dJ0_charAt_5068e_1 : decode cJ0_charAt_5068e 1 = .ok (.invokevirtual 492, 3) := by decide +kernel
theorem dJ0_charAt_5068e_4 : decode cJ0_charAt_5068e 4 = .ok (.ifCond .eq 12, 3) := by decide +kernel
theorem dJ0_charAt_5068e_7 : decode cJ0_charAt_5068e 7 = .ok (.aload_n 0, 1) := by decide +kernel
theorem dJ0_charAt_5068e_8 : decode cJ0_charAt_5068e 8 = .ok (.getfield 9, 3) := by decide +kernel
theorem dJ0_charAt_5068e_11 : decode cJ0_charAt_5068e 11 = .ok (.iload_n 1, 1) := by decide +kernel
theorem dJ0_charAt_5068e_12 : decode cJ0_charAt_5068e 12 = .ok (.invokestatic 495, 3) := by decide +kernel
theorem dJ0_charAt_5068e_15 : decode cJ0_charAt_5068e 15 = .ok (.ireturn, 1) := by decide +kernel
theorem dJ0_charAt_5068e_16 : decode cJ0_charAt_5068e 16 = .ok (.aload_n 0, 1) := by decide +kernel
theorem dJ0_charAt_5068e_17 : decode cJ0_charAt_5068e 17 = .ok (.getfield 9, 3) := by decide +kernel
theorem dJ0_charAt_5068e_20 : decode cJ0_charAt_5068e 20 = .ok (.iload_n 1, 1) := by decide +kernel
theorem dJ0_charAt_5068e_21 : decode cJ0_charAt_5068e 21 = .ok (.invokestatic 498, 3) := by decide +kernel
theorem dJ0_charAt_5068e_24 : decode cJ0_charAt_5068e 24 = .ok (.ireturn, 1) := by decide +kernel
theorem wJ0_charAt (l : Launch) (G : zG) (c0 : Nat) (hc0 : zIsS c0) (v1 : Int32) (M : zM) : zV eI l G zLX zRX 5 yJ0_charAt_5068e cJ0_charAt_5068e 2 (some .char) 0 [(0, .ref c0), (1, .int v1)] [] M (fJ0_charAt c0 v1 M) := by
  rw [fJ0_charAt]
  refine v_aload_n (pc := 0) dJ0_charAt_5068e_0 rfl ?_
  refine v_callT (pc := 1) (As := []) (cJ0_isLatin1 l G c0 hc0 M) zc_J0_isLatin1_aae02 rfl hc0 tw_952 (by decide) (Nat.le_of_ble_eq_true rfl) dJ0_charAt_5068e_1 (fun r2 M1 => ?_)
  refine v_if_eq (pc := 4) 16 dJ0_charAt_5068e_4 (by decide) ?_ ?_
  · refine v_aload_n (pc := 16) dJ0_charAt_5068e_16 rfl ?_
    refine v_getSV (pc := 17) hc0 tw_1462 dJ0_charAt_5068e_17 ?_
    refine v_iload_n (pc := 20) dJ0_charAt_5068e_20 rfl ?_
    exact v_none
  · refine v_aload_n (pc := 7) dJ0_charAt_5068e_7 rfl ?_
    refine v_getSV (pc := 8) hc0 tw_1462 dJ0_charAt_5068e_8 ?_
    refine v_iload_n (pc := 11) dJ0_charAt_5068e_11 rfl ?_
    refine v_callS (pc := 12) (As := [.ref (c0 + 1000), .int v1]) (cJ1_charAt l G (c0 + 1000) (zIsB_of hc0) v1 M1) zc_J1_charAt_3b067 tw_956 (by decide) (Nat.le_of_ble_eq_true rfl) dJ0_charAt_5068e_12 (fun r4 M3 => ?_)
    exact v_nret (pc := 15) dJ0_charAt_5068e_15
theorem cJ0_charAt (l : Launch) (G : zG) (c0 : Nat) (hc0 : zIsS c0) (v1 : Int32) (M : zM) : zC eI l G zLX zRX 5 yJ0_charAt_5068e cJ0_charAt_5068e 2 (some .char) [.ref c0, .int v1] M (fJ0_charAt c0 v1 M) := zC.of (by decide) (Nat.le_of_ble_eq_true rfl) (v_sub (wJ0_charAt l G c0 hc0 v1 M) rfl)
