def zLX : List zD := [(9, 0), (3, 0), (100, 30), (100, 30), (100, 12), (8, 0), (100, 12), (100, 12), (100, 12), (100, 12), (100, 12), (100, 30), (100, 12), (100, 12), (1, 0), (103, 3), (100, 3), (100, 12), (100, 12), (100, 12), (100, 12), (100, 12), (100, 12), (2, 0), (100, 12), (100, 24), (2, 0), (100, 12), (100, 144), (2, 0), (100, 12), (100, 288), (104, 3), (4, 0), (100, 12), (2, 0), (100, 12), (100, 24), (4, 0), (100, 12), (2, 0), (100, 12), (100, 144), (4, 0), (100, 12), (2, 0), (100, 12), (100, 288), (5, 0), (0, 0), (100, 12), (100, 12), (100, 12), (7, 0), (100, 5), (100, 10), (6, 0), (101, 200), (100, 12), (100, 12), (100, 12), (100, 12), (100, 12)]
def zRXl : List (Nat × Nat × Nat) := [(0, 0, 1), (0, 1, 5), (0, 2, 14), (0, 3, 32), (0, 4, 48), (0, 5, 49), (0, 6, 53), (0, 7, 56), (1, 3, 2), (1, 4, 3), (1, 5, 4), (5, 0, 1), (5, 3, 6), (5, 4, 7), (5, 5, 8), (5, 6, 9), (5, 7, 10), (5, 8, 11), (5, 9, 12), (5, 12, 13), (14, 0, 1), (14, 1, 5), (14, 2, 15), (14, 3, 16), (14, 4, 17), (14, 5, 18), (14, 6, 19), (14, 7, 20), (14, 8, 21), (14, 9, 22), (15, 0, 23), (15, 1, 26), (15, 2, 29), (23, 3, 24), (23, 4, 25), (26, 3, 27), (26, 4, 28), (29, 3, 30), (29, 4, 31), (32, 0, 33), (32, 1, 38), (32, 2, 43), (33, 1, 35), (33, 2, 34), (35, 3, 36), (35, 4, 37), (38, 1, 40), (38, 2, 39), (40, 3, 41), (40, 4, 42), (43, 1, 45), (43, 2, 44), (45, 3, 46), (45, 4, 47), (48, 0, 1), (48, 1, 5), (48, 2, 14), (49, 0, 1), (49, 1, 5), (49, 2, 50), (49, 3, 51), (49, 4, 52), (53, 0, 54), (53, 1, 55), (56, 0, 1), (56, 1, 57), (56, 7, 58), (56, 8, 59), (56, 9, 60), (56, 10, 61), (56, 12, 62)]
def zRX : zR := fun c k => (zRXl.find? (fun q => Nat.beq q.1 c && Nat.beq q.2.1 k)).map (fun q => q.2.2)
theorem lx_0 : zLX[0]? = some (9, 0) := rfl
theorem lx_1 : zLX[1]? = some (3, 0) := rfl
theorem lx_2 : zLX[2]? = some (100, 30) := rfl
theorem lx_3 : zLX[3]? = some (100, 30) := rfl
theorem lx_4 : zLX[4]? = some (100, 12) := rfl
theorem lx_5 : zLX[5]? = some (8, 0) := rfl
theorem lx_6 : zLX[6]? = some (100, 12) := rfl
theorem lx_7 : zLX[7]? = some (100, 12) := rfl
theorem lx_8 : zLX[8]? = some (100, 12) := rfl
theorem lx_9 : zLX[9]? = some (100, 12) := rfl
theorem lx_10 : zLX[10]? = some (100, 12) := rfl
theorem lx_11 : zLX[11]? = some (100, 30) := rfl
theorem lx_12 : zLX[12]? = some (100, 12) := rfl
theorem lx_13 : zLX[13]? = some (100, 12) := rfl
theorem lx_14 : zLX[14]? = some (1, 0) := rfl
theorem lx_15 : zLX[15]? = some (103, 3) := rfl
theorem lx_16 : zLX[16]? = some (100, 3) := rfl
theorem lx_17 : zLX[17]? = some (100, 12) := rfl
theorem lx_18 : zLX[18]? = some (100, 12) := rfl
theorem lx_19 : zLX[19]? = some (100, 12) := rfl
theorem lx_20 : zLX[20]? = some (100, 12) := rfl
theorem lx_21 : zLX[21]? = some (100, 12) := rfl
theorem lx_22 : zLX[22]? = some (100, 12) := rfl
theorem lx_23 : zLX[23]? = some (2, 0) := rfl
theorem lx_24 : zLX[24]? = some (100, 12) := rfl
theorem lx_25 : zLX[25]? = some (100, 24) := rfl
theorem lx_26 : zLX[26]? = some (2, 0) := rfl
theorem lx_27 : zLX[27]? = some (100, 12) := rfl
theorem lx_28 : zLX[28]? = some (100, 144) := rfl
theorem lx_29 : zLX[29]? = some (2, 0) := rfl
theorem lx_30 : zLX[30]? = some (100, 12) := rfl
theorem lx_31 : zLX[31]? = some (100, 288) := rfl
theorem lx_32 : zLX[32]? = some (104, 3) := rfl
theorem lx_33 : zLX[33]? = some (4, 0) := rfl
theorem lx_34 : zLX[34]? = some (100, 12) := rfl
theorem lx_35 : zLX[35]? = some (2, 0) := rfl
theorem lx_36 : zLX[36]? = some (100, 12) := rfl
theorem lx_37 : zLX[37]? = some (100, 24) := rfl
theorem lx_38 : zLX[38]? = some (4, 0) := rfl
theorem lx_39 : zLX[39]? = some (100, 12) := rfl
theorem lx_40 : zLX[40]? = some (2, 0) := rfl
theorem lx_41 : zLX[41]? = some (100, 12) := rfl
theorem lx_42 : zLX[42]? = some (100, 144) := rfl
theorem lx_43 : zLX[43]? = some (4, 0) := rfl
theorem lx_44 : zLX[44]? = some (100, 12) := rfl
theorem lx_45 : zLX[45]? = some (2, 0) := rfl
theorem lx_46 : zLX[46]? = some (100, 12) := rfl
theorem lx_47 : zLX[47]? = some (100, 288) := rfl
theorem lx_48 : zLX[48]? = some (5, 0) := rfl
theorem lx_49 : zLX[49]? = some (0, 0) := rfl
theorem lx_50 : zLX[50]? = some (100, 12) := rfl
theorem lx_51 : zLX[51]? = some (100, 12) := rfl
theorem lx_52 : zLX[52]? = some (100, 12) := rfl
theorem lx_53 : zLX[53]? = some (7, 0) := rfl
theorem lx_54 : zLX[54]? = some (100, 5) := rfl
theorem lx_55 : zLX[55]? = some (100, 10) := rfl
theorem lx_56 : zLX[56]? = some (6, 0) := rfl
theorem lx_57 : zLX[57]? = some (101, 200) := rfl
theorem lx_58 : zLX[58]? = some (100, 12) := rfl
theorem lx_59 : zLX[59]? = some (100, 12) := rfl
theorem lx_60 : zLX[60]? = some (100, 12) := rfl
theorem lx_61 : zLX[61]? = some (100, 12) := rfl
theorem lx_62 : zLX[62]? = some (100, 12) := rfl
theorem rx_0_0 : zRX 0 0 = some 1 := rfl
theorem rx_0_1 : zRX 0 1 = some 5 := rfl
theorem rx_0_2 : zRX 0 2 = some 14 := rfl
theorem rx_0_3 : zRX 0 3 = some 32 := rfl
theorem rx_0_4 : zRX 0 4 = some 48 := rfl
theorem rx_0_5 : zRX 0 5 = some 49 := rfl
theorem rx_0_6 : zRX 0 6 = some 53 := rfl
theorem rx_0_7 : zRX 0 7 = some 56 := rfl
theorem rx_1_3 : zRX 1 3 = some 2 := rfl
theorem rx_1_4 : zRX 1 4 = some 3 := rfl
theorem rx_1_5 : zRX 1 5 = some 4 := rfl
theorem rx_5_0 : zRX 5 0 = some 1 := rfl
theorem rx_5_3 : zRX 5 3 = some 6 := rfl
theorem rx_5_4 : zRX 5 4 = some 7 := rfl
theorem rx_5_5 : zRX 5 5 = some 8 := rfl
theorem rx_5_6 : zRX 5 6 = some 9 := rfl
theorem rx_5_7 : zRX 5 7 = some 10 := rfl
theorem rx_5_8 : zRX 5 8 = some 11 := rfl
theorem rx_5_9 : zRX 5 9 = some 12 := rfl
theorem rx_5_12 : zRX 5 12 = some 13 := rfl
theorem rx_14_0 : zRX 14 0 = some 1 := rfl
theorem rx_14_1 : zRX 14 1 = some 5 := rfl
theorem rx_14_2 : zRX 14 2 = some 15 := rfl
theorem rx_14_3 : zRX 14 3 = some 16 := rfl
theorem rx_14_4 : zRX 14 4 = some 17 := rfl
theorem rx_14_5 : zRX 14 5 = some 18 := rfl
theorem rx_14_6 : zRX 14 6 = some 19 := rfl
theorem rx_14_7 : zRX 14 7 = some 20 := rfl
theorem rx_14_8 : zRX 14 8 = some 21 := rfl
theorem rx_14_9 : zRX 14 9 = some 22 := rfl
theorem rx_15_0 : zRX 15 0 = some 23 := rfl
theorem rx_15_1 : zRX 15 1 = some 26 := rfl
theorem rx_15_2 : zRX 15 2 = some 29 := rfl
theorem rx_23_3 : zRX 23 3 = some 24 := rfl
theorem rx_23_4 : zRX 23 4 = some 25 := rfl
theorem rx_26_3 : zRX 26 3 = some 27 := rfl
theorem rx_26_4 : zRX 26 4 = some 28 := rfl
theorem rx_29_3 : zRX 29 3 = some 30 := rfl
theorem rx_29_4 : zRX 29 4 = some 31 := rfl
theorem rx_32_0 : zRX 32 0 = some 33 := rfl
theorem rx_32_1 : zRX 32 1 = some 38 := rfl
theorem rx_32_2 : zRX 32 2 = some 43 := rfl
theorem rx_33_1 : zRX 33 1 = some 35 := rfl
theorem rx_33_2 : zRX 33 2 = some 34 := rfl
theorem rx_35_3 : zRX 35 3 = some 36 := rfl
theorem rx_35_4 : zRX 35 4 = some 37 := rfl
theorem rx_38_1 : zRX 38 1 = some 40 := rfl
theorem rx_38_2 : zRX 38 2 = some 39 := rfl
theorem rx_40_3 : zRX 40 3 = some 41 := rfl
theorem rx_40_4 : zRX 40 4 = some 42 := rfl
theorem rx_43_1 : zRX 43 1 = some 45 := rfl
theorem rx_43_2 : zRX 43 2 = some 44 := rfl
theorem rx_45_3 : zRX 45 3 = some 46 := rfl
theorem rx_45_4 : zRX 45 4 = some 47 := rfl
theorem rx_48_0 : zRX 48 0 = some 1 := rfl
theorem rx_48_1 : zRX 48 1 = some 5 := rfl
theorem rx_48_2 : zRX 48 2 = some 14 := rfl
theorem rx_49_0 : zRX 49 0 = some 1 := rfl
theorem rx_49_1 : zRX 49 1 = some 5 := rfl
theorem rx_49_2 : zRX 49 2 = some 50 := rfl
theorem rx_49_3 : zRX 49 3 = some 51 := rfl
theorem rx_49_4 : zRX 49 4 = some 52 := rfl
theorem rx_53_0 : zRX 53 0 = some 54 := rfl
theorem rx_53_1 : zRX 53 1 = some 55 := rfl
theorem rx_56_0 : zRX 56 0 = some 1 := rfl
theorem rx_56_1 : zRX 56 1 = some 57 := rfl
theorem rx_56_7 : zRX 56 7 = some 58 := rfl
theorem rx_56_8 : zRX 56 8 = some 59 := rfl
theorem rx_56_9 : zRX 56 9 = some 60 := rfl
theorem rx_56_10 : zRX 56 10 = some 61 := rfl
theorem rx_56_12 : zRX 56 12 = some 62 := rfl
def zLY : List zD := [(10, 0), (100, 30), (100, 30), (100, 12), (100, 12), (100, 12), (100, 12), (100, 12), (100, 12), (100, 12), (100, 12), (100, 12), (100, 12), (100, 312), (100, 12), (100, 12), (100, 6), (102, 3), (100, 3), (100, 36), (100, 936), (100, 36), (100, 30), (100, 12), (100, 5), (100, 200), (100, 12), (100, 12), (100, 8)]
def zRYl : List (Nat × Nat × Nat) := [(0, 2, 1), (0, 3, 2), (0, 4, 3), (0, 5, 4), (0, 6, 5), (0, 7, 6), (0, 8, 7), (0, 11, 8), (0, 12, 9), (0, 13, 10), (0, 14, 11), (0, 15, 12), (0, 16, 13), (0, 17, 14), (0, 18, 15), (0, 19, 16), (0, 20, 17), (0, 21, 18), (0, 22, 19), (0, 23, 20), (0, 24, 21), (0, 25, 22), (0, 26, 23), (0, 27, 24), (0, 28, 25), (0, 36, 26), (0, 37, 27), (0, 39, 28)]
def zRY : zR := fun c k => (zRYl.find? (fun q => Nat.beq q.1 c && Nat.beq q.2.1 k)).map (fun q => q.2.2)
theorem ly_0 : zLY[0]? = some (10, 0) := rfl
theorem ly_1 : zLY[1]? = some (100, 30) := rfl
theorem ly_2 : zLY[2]? = some (100, 30) := rfl
theorem ly_3 : zLY[3]? = some (100, 12) := rfl
theorem ly_4 : zLY[4]? = some (100, 12) := rfl
theorem ly_5 : zLY[5]? = some (100, 12) := rfl
theorem ly_6 : zLY[6]? = some (100, 12) := rfl
theorem ly_7 : zLY[7]? = some (100, 12) := rfl
theorem ly_8 : zLY[8]? = some (100, 12) := rfl
theorem ly_9 : zLY[9]? = some (100, 12) := rfl
theorem ly_10 : zLY[10]? = some (100, 12) := rfl
theorem ly_11 : zLY[11]? = some (100, 12) := rfl
theorem ly_12 : zLY[12]? = some (100, 12) := rfl
theorem ly_13 : zLY[13]? = some (100, 312) := rfl
theorem ly_14 : zLY[14]? = some (100, 12) := rfl
theorem ly_15 : zLY[15]? = some (100, 12) := rfl
theorem ly_16 : zLY[16]? = some (100, 6) := rfl
theorem ly_17 : zLY[17]? = some (102, 3) := rfl
theorem ly_18 : zLY[18]? = some (100, 3) := rfl
theorem ly_19 : zLY[19]? = some (100, 36) := rfl
theorem ly_20 : zLY[20]? = some (100, 936) := rfl
theorem ly_21 : zLY[21]? = some (100, 36) := rfl
theorem ly_22 : zLY[22]? = some (100, 30) := rfl
theorem ly_23 : zLY[23]? = some (100, 12) := rfl
theorem ly_24 : zLY[24]? = some (100, 5) := rfl
theorem ly_25 : zLY[25]? = some (100, 200) := rfl
theorem ly_26 : zLY[26]? = some (100, 12) := rfl
theorem ly_27 : zLY[27]? = some (100, 12) := rfl
theorem ly_28 : zLY[28]? = some (100, 8) := rfl
theorem ry_0_2 : zRY 0 2 = some 1 := rfl
theorem ry_0_3 : zRY 0 3 = some 2 := rfl
theorem ry_0_4 : zRY 0 4 = some 3 := rfl
theorem ry_0_5 : zRY 0 5 = some 4 := rfl
theorem ry_0_6 : zRY 0 6 = some 5 := rfl
theorem ry_0_7 : zRY 0 7 = some 6 := rfl
theorem ry_0_8 : zRY 0 8 = some 7 := rfl
theorem ry_0_11 : zRY 0 11 = some 8 := rfl
theorem ry_0_12 : zRY 0 12 = some 9 := rfl
theorem ry_0_13 : zRY 0 13 = some 10 := rfl
theorem ry_0_14 : zRY 0 14 = some 11 := rfl
theorem ry_0_15 : zRY 0 15 = some 12 := rfl
theorem ry_0_16 : zRY 0 16 = some 13 := rfl
theorem ry_0_17 : zRY 0 17 = some 14 := rfl
theorem ry_0_18 : zRY 0 18 = some 15 := rfl
theorem ry_0_19 : zRY 0 19 = some 16 := rfl
theorem ry_0_20 : zRY 0 20 = some 17 := rfl
theorem ry_0_21 : zRY 0 21 = some 18 := rfl
theorem ry_0_22 : zRY 0 22 = some 19 := rfl
theorem ry_0_23 : zRY 0 23 = some 20 := rfl
theorem ry_0_24 : zRY 0 24 = some 21 := rfl
theorem ry_0_25 : zRY 0 25 = some 22 := rfl
theorem ry_0_26 : zRY 0 26 = some 23 := rfl
theorem ry_0_27 : zRY 0 27 = some 24 := rfl
theorem ry_0_28 : zRY 0 28 = some 25 := rfl
theorem ry_0_36 : zRY 0 36 = some 26 := rfl
theorem ry_0_37 : zRY 0 37 = some 27 := rfl
theorem ry_0_39 : zRY 0 39 = some 28 := rfl
def zln (j : Nat) : Nat := (zLX.getD j (0, 0)).2
def zN (c : Nat) : Prop := zLX[c]? = some (2, 0) ∧ zLX[c + 1]? = some (100, 12) ∧ zLX[c + 2]? = some (100, zln (c + 2)) ∧ zRX c 3 = some (c + 1) ∧ zRX c 4 = some (c + 2)
def zPg (c : Nat) : Prop := zLX[c]? = some (4, 0) ∧ zLX[c + 1]? = some (100, 12) ∧ zRX c 1 = some (c + 2) ∧ zRX c 2 = some (c + 1) ∧ zN (c + 2)
def zNb (c : Nat) : Bool := decide (c = 23) || decide (c = 26) || decide (c = 29) || decide (c = 35) || decide (c = 40) || decide (c = 45)
theorem zN_of {c : Nat} (h : zNb c = true) : zN c := by
  have h1 : c = 23 ∨ c = 26 ∨ c = 29 ∨ c = 35 ∨ c = 40 ∨ c = 45 := by
    simp only [zNb, Bool.or_eq_true, decide_eq_true_eq] at h
    omega
  rcases h1 with rfl | rfl | rfl | rfl | rfl | rfl <;> exact ⟨rfl, rfl, rfl, rfl, rfl⟩
theorem zin_of {i : Int32} {n : Nat} (h : zin i n = true) (hn : n < 2 ^ 31) : ∃ j : Nat, j < n ∧ i = nI j ∧ i.toNatClampNeg = j := by
  obtain ⟨j, h1, h2⟩ := vp_in_of (zin_vp h) hn
  exact ⟨j, h1, h2, by rw [h2, nI_clamp (by omega)]⟩
theorem zN_rows {i : Int32} {b : Nat} (hi : zin i 3 = true) (hb : zRX 15 i.toNatClampNeg = some b) : zN b := by
  obtain ⟨j, h1, -, h3⟩ := zin_of hi (by decide)
  rw [h3] at hb
  rcases (show j = 0 ∨ j = 1 ∨ j = 2 by omega) with rfl | rfl | rfl <;> (cases Option.some.inj hb; exact ⟨rfl, rfl, rfl, rfl, rfl⟩)
theorem zPg_rows {i : Int32} {b : Nat} (hi : zin i 3 = true) (hb : zRX 32 i.toNatClampNeg = some b) : zPg b := by
  obtain ⟨j, h1, -, h3⟩ := zin_of hi (by decide)
  rw [h3] at hb
  rcases (show j = 0 ∨ j = 1 ∨ j = 2 by omega) with rfl | rfl | rfl <;> (cases Option.some.inj hb; exact ⟨rfl, rfl, rfl, rfl, ⟨rfl, rfl, rfl, rfl, rfl⟩⟩)
/-! Strings -/
def zIsS (c : Nat) : Prop := ∃ i : Nat, i < 5 ∧ c = 1000 + i
def zIsB (c : Nat) : Prop := ∃ i : Nat, i < 5 ∧ c = 1000 + i + 1000
def zSb (c : Nat) : Bool := decide (1000 ≤ c) && decide (c < 1005)
theorem zIsS_of {c : Nat} (h : zSb c = true) : zIsS c := by
  simp only [zSb, Bool.and_eq_true, decide_eq_true_eq] at h
  exact ⟨c - 1000, by omega, by omega⟩
theorem zIsB_of {c : Nat} (h : zIsS c) : zIsB (c + 1000) := by
  obtain ⟨i, h1, h2⟩ := h
  exact ⟨i, h1, by rw [h2]⟩
theorem zIsS_0 : zIsS 1000 := ⟨0, by decide, rfl⟩
theorem zIsS_1 : zIsS 1001 := ⟨1, by decide, rfl⟩
theorem zIsS_2 : zIsS 1002 := ⟨2, by decide, rfl⟩
theorem zIsS_3 : zIsS 1003 := ⟨3, by decide, rfl⟩
theorem zIsS_4 : zIsS 1004 := ⟨4, by decide, rfl⟩
def zSl (c : Nat) : Int32 := nI (zlen.getD (c - 2000) 0)
def rdS {α : Type} (c : Nat) (i : Int32) (K : Int32 → Option α) : Option α := if zin i (zlen.getD (c - 2000) 0) = true then K ((zbyt.getD (c - 2000) []).getD i.toNatClampNeg 0) else none
section zStr
variable {ρ : Type} {emb : ρ → Option Value} {l : Launch} {G : zG} {L : List zD} {R : zR} {k : Nat} {yn : MethodName} {cc : ByteArray} {nL : Nat} {rt : Option FieldType} {pc : Nat} {lv : List (Nat × Value)} {st : List Value} {M : zM} {res : Option (ρ × zM)}
theorem v_getZ {idx : Nat} (hw : Cond.fieldLink yn.cls idx "java/lang/String" "COMPACT_STRINGS" "Z" ∈ zbig) (hd : decode cc pc = .ok (.getstatic idx, 3)) (h : zV emb l G L R k yn cc nL rt (pc + 3) lv (.int 1 :: st) M res) : zV emb l G L R k yn cc nL rt pc lv st M res := by
  intro r M' hr p e s m args below meth c H locs ls ad cx hP hD hS hl
  exact va_gets cx.1 cx.2.1 cx.2.2.2.2.2.2.2.2.2.2.1 hS cx.2.2.2.2.2.1 (cx.2.2.2.2.2.2.1 _ hw) (fun _ hx => hx) hd (h r M' hr p e s m args below meth c H locs ls ad cx hP hD hS hl)
theorem v_getF {idx : Nat} (hw : Cond.fieldLink yn.cls idx "jdk/internal/util/Preconditions" "SIOOBE_FORMATTER" "Ljava/util/function/BiFunction;" ∈ zbig) (hd : decode cc pc = .ok (.getstatic idx, 3)) (h : ∀ v : Value, v.category = 1 → zV emb l G L R k yn cc nL rt (pc + 3) lv (v :: st) M res) : zV emb l G L R k yn cc nL rt pc lv st M res := by
  intro r M' hr p e s m args below meth c H locs ls ad cx hP hD hS hl
  obtain ⟨v, hv, hZ⟩ := cx.2.2.2.2.2.2.2.2.2.2.2
  exact va_gets cx.1 cx.2.1 hZ hS cx.2.2.2.2.2.1 (cx.2.2.2.2.2.2.1 _ hw) (fun _ hx => hx) hd (h v hv r M' hr p e s m args below meth c H locs ls ad cx hP hD hS hl)
theorem v_ldcS {i : Nat} (hi : i < 5) (hd : decode cc pc = .ok (.ldc (84 + 2 * i), 2)) (h : zV emb l G L R k yn cc nL rt (pc + 2) lv (.ref (1000 + i) :: st) M res) (hy : yn.cls = "NameNets$Script" := by rfl) : zV emb l G L R k yn cc nL rt pc lv st M res := by
  intro r M' hr p e s m args below meth c H locs ls ad cx hP hD hS hl
  exact va_ldcS cx.1 cx.2.1 (hy ▸ cx.2.2.2.2.2.1) (cx.2.2.2.2.2.2.2.2.2.1 i hi) hd (h r M' hr p e s m args below meth c H locs ls ad cx hP hD hS hl)
theorem v_getSV {idx cs : Nat} (hs : zIsS cs) (hw : Cond.fieldLink yn.cls idx "java/lang/String" "value" "[B" ∈ zbig) (hd : decode cc pc = .ok (.getfield idx, 3)) (h : zV emb l G L R k yn cc nL rt (pc + 3) lv (.ref (cs + 1000) :: st) M res) : zV emb l G L R k yn cc nL rt pc lv (.ref cs :: st) M res := by
  intro r M' hr p e s m args below meth c H locs ls ad cx hP hD hS hl
  obtain ⟨i, hi, rfl⟩ := hs
  have hE := ((cx.2.2.2.2.2.2.2.2.1).1 i hi).2.2.1
  have he : 2000 + i = 1000 + i + 1000 := by omega
  dsimp only at hE
  rw [he] at hE
  exact vk_getf cx.1 cx.2.1 hE hS cx.2.2.2.2.2.1 (cx.2.2.2.2.2.2.1 _ hw) (fun _ hx => hx) hd (h r M' hr p e s m args below meth c H locs ls ad cx hP hD hS hl)
theorem v_getSC {idx cs : Nat} (hs : zIsS cs) (hw : Cond.fieldLink yn.cls idx "java/lang/String" "coder" "B" ∈ zbig) (hd : decode cc pc = .ok (.getfield idx, 3)) (h : zV emb l G L R k yn cc nL rt (pc + 3) lv (.int 0 :: st) M res) : zV emb l G L R k yn cc nL rt pc lv (.ref cs :: st) M res := by
  intro r M' hr p e s m args below meth c H locs ls ad cx hP hD hS hl
  obtain ⟨i, hi, rfl⟩ := hs
  exact vk_getf cx.1 cx.2.1 ((cx.2.2.2.2.2.2.2.2.1).1 i hi).2.1 hS cx.2.2.2.2.2.1 (cx.2.2.2.2.2.2.1 _ hw) (fun _ hx => hx) hd (h r M' hr p e s m args below meth c H locs ls ad cx hP hD hS hl)
theorem zB_T {ad : Nat → Nat} {s : State} {cb i : Nat} (hz : zS ad L s) (hi : i < 5) (hc : cb = 1000 + i + 1000) : va_T .byte (ad cb) (zlen.getD (cb - 2000) 0) (fun j => .int ((zbyt.getD (cb - 2000) []).getD j 0)) (zA ad L) s s.heap := by
  have hT := (hz.1.1 i hi).2.2.2
  have he : cb = 2000 + i := by omega
  have he2 : cb - 2000 = i := by omega
  rw [he2, he]
  exact hT
theorem v_alenS {cb : Nat} (hs : zIsB cb) (hd : decode cc pc = .ok (.arraylength, 1)) (h : zV emb l G L R k yn cc nL rt (pc + 1) lv (.int (zSl cb) :: st) M res) : zV emb l G L R k yn cc nL rt pc lv (.ref cb :: st) M res := by
  intro r M' hr p e s m args below meth c H locs ls ad cx hP hD hS hl
  obtain ⟨i, hi, hc⟩ := hs
  exact va_tlen cx.1 cx.2.1 (zB_T cx.2.2.2.2.2.2.2.2 hi hc) hS rfl hd (h r M' hr p e s m args below meth c H locs ls ad cx hP hD hS hl)
theorem v_baldS {cb : Nat} {i : Int32} {K : Int32 → Option (ρ × zM)} (hs : zIsB cb) (hd : decode cc pc = .ok (.baload, 1)) (h : ∀ x, zV emb l G L R k yn cc nL rt (pc + 1) lv (.int x :: st) M (K x)) : zV emb l G L R k yn cc nL rt pc lv (.int i :: .ref cb :: st) M (rdS cb i K) := by
  intro r M' hr p e s m args below meth c H locs ls ad cx hP hD hS hl
  obtain ⟨j, hj, hc⟩ := hs
  unfold rdS at hr
  by_cases hi : zin i (zlen.getD (cb - 2000) 0) = true
  · rw [if_pos hi] at hr
    exact va_tb cx.1 cx.2.1 (zB_T cx.2.2.2.2.2.2.2.2 hj hc) hS (zin_vp hi) rfl hd (h _ r M' hr p e s m args below meth c H locs ls ad cx hP hD hS hl)
  · rw [if_neg hi] at hr
    cases hr
theorem v_callT {ρ1 : Type} {emb1 : ρ1 → Option Value} {y : MethodName} {cc1 : ByteArray} {nL1 : Nat} {rt1 : Option FieldType} {k1 idx b : Nat} {As : List Value} {res1 : Option (ρ1 × zM)} {K : ρ1 → zM → Option (ρ × zM)}
    (hc : zC emb1 l G L R k1 y cc1 nL1 rt1 (.ref b :: As) M res1) (hy : zcV y cc1 nL1 rt1 As.length) (hC : y.cls = "java/lang/String") (hs : zIsS b) (hw : Cond.methodLink yn.cls idx y ∈ zbig) (hk : k1 + 1 ≤ k ∧ 8 + (nL1 + 11) + 64 * k1 ≤ 64 * k) (hst : (st.map fun v => v.category).sum ≤ 8) (hd : decode cc pc = .ok (.invokevirtual idx, 3))
    (h : ∀ (r1 : ρ1) (M1 : zM), zV emb l G L R k yn cc nL rt (pc + 3) lv ((emb1 r1).toList ++ st) M1 (K r1 M1)) : zV emb l G L R k yn cc nL rt pc lv (As.reverse ++ .ref b :: st) M (cl res1 K) := by
  intro r M' hr p e s m args below meth c H locs ls ad cx hP hD hS hl
  cases hres : res1 with
  | none => rw [hres] at hr; cases hr
  | some q =>
    obtain ⟨r1, M1⟩ := q
    rw [hres] at hr
    have hM := hc r1 M1 hres ad
    obtain ⟨i, hi, rfl⟩ := hs
    have hrc := vk_recv (cx.2.2.2.2.2.2.2.2.1) hi hS
    rw [← hC] at hrc
    refine z_call (v := emb1 r1) (M1 := M1) (va_runV (As := As.map (zev ad)) (b := ad (1000 + i)) (rest := st.map (zev ad)) ⟨cx.1, cx.2.1, cx.2.2.1, cx.2.2.2.2.2.1, cx.2.2.2.2.2.2.1⟩ hM ⟨hy.1.call cx.2.2.2.2.2.2.1 hw hk, cx.2.2.2.2.2.2.1 _ hy.2.1, cx.2.2.2.2.2.2.1 _ hy.2.2⟩
      ⟨zPre_blind, hrc, fun U hU hW => ⟨rfl, by rw [hU]; exact hP, hD, va_K.moved hW.alike cx.2.2.2.2.2.2.2.1, zS_moved cx.2.2.2.2.2.2.2.2 hS hU hW⟩⟩ rfl (by simp) hl.1 (by simp [zev]) (lv_room (by simpa [Function.comp_def, zev_cat] using hst)) hd ⟨Nat.le_refl _, Nat.le_refl _⟩) hS (fun H1 locs1 hP1 hS1 => ?_)
    have hz := h r1 M1 r M' hr p e s m args below meth c H1 locs1 ls ad cx hP1 (zD_any hD) hS1 hl
    have he : ((emb1 r1).toList ++ st).map (zev ad) = ((emb1 r1).map (zev ad)).toList ++ st.map (zev ad) := by cases emb1 r1 <;> simp
    rw [he] at hz
    exact hz
/-! Math -/
def zmax (x y : Int32) : Int32 := if x < y then y else x
def zmin (x y : Int32) : Int32 := if y < x then y else x
theorem v_mmax {idx : Nat} {x y : Int32} (hw : Cond.methodLink yn.cls idx Lib.Math.max.name ∈ zbig) (hk : 1 ≤ k) (hst : (st.map fun v => v.category).sum ≤ 8) (hd : decode cc pc = .ok (.invokestatic idx, 3)) (h : zV emb l G L R k yn cc nL rt (pc + 3) lv (.int (zmax x y) :: st) M res) : zV emb l G L R k yn cc nL rt pc lv (.int y :: .int x :: st) M res := by
  intro r M' hr p e s m args below meth c H locs ls ad cx hP hD hS hl
  have hts := cx.2.2.2.2.2.2.1
  refine va_mmax cx.1 cx.2.1 (cx.2.2.1.trans hl.1.symm) cx.2.2.2.2.2.1 (hts _ hw) (hts _ tw_560) (hts _ tw_94) (hts _ tw_561) hk ?_ (Nat.le_refl _) (Nat.le_refl _) hd (h r M' hr p e s m args below meth c H locs ls ad cx hP hD hS hl)
  have e1 : ((st.map (zev ad)).map fun v => v.category).sum = (st.map fun v => v.category).sum := by simp [Function.comp_def, zev_cat]
  rw [e1]
  show _ ≤ 64 * k
  omega
theorem v_mmin {idx : Nat} {x y : Int32} (hw : Cond.methodLink yn.cls idx Lib.Math.min.name ∈ zbig) (hk : 1 ≤ k) (hst : (st.map fun v => v.category).sum ≤ 8) (hd : decode cc pc = .ok (.invokestatic idx, 3)) (h : zV emb l G L R k yn cc nL rt (pc + 3) lv (.int (zmin x y) :: st) M res) : zV emb l G L R k yn cc nL rt pc lv (.int y :: .int x :: st) M res := by
  intro r M' hr p e s m args below meth c H locs ls ad cx hP hD hS hl
  have hts := cx.2.2.2.2.2.2.1
  refine va_mmin cx.1 cx.2.1 (cx.2.2.1.trans hl.1.symm) cx.2.2.2.2.2.1 (hts _ hw) (hts _ tw_627) (hts _ tw_94) (hts _ tw_628) hk ?_ (Nat.le_refl _) (Nat.le_refl _) hd (h r M' hr p e s m args below meth c H locs ls ad cx hP hD hS hl)
  have e1 : ((st.map (zev ad)).map fun v => v.category).sum = (st.map fun v => v.category).sum := by simp [Function.comp_def, zev_cat]
  rw [e1]
  show _ ≤ 64 * k
  omega
/-! arraycopy -/
def zcp {α : Type} (M : zM) (j0 n0 j1 n1 : Nat) (sp dp n : Int32) (K : zM → Option α) : Option α :=
  if ¬ sp < 0 ∧ ¬ dp < 0 ∧ ¬ n < 0 ∧ sp.toNatClampNeg + n.toNatClampNeg ≤ n0 ∧ dp.toNatClampNeg + n.toNatClampNeg ≤ n1 then K (fun j => if j = j1 then va_cpy (M j0) (M j1) sp.toNatClampNeg dp.toNatClampNeg n.toNatClampNeg else M j) else none
theorem v_acopy {idx j0 n0 j1 n1 : Nat} {sp dp n : Int32} {K : zM → Option (ρ × zM)} (hL0 : L[j0]? = some (100, n0)) (hL1 : L[j1]? = some (100, n1)) (hw : Cond.methodLink yn.cls idx arraycopyName ∈ zbig) (hk : 1 ≤ k) (hst : (st.map fun v => v.category).sum ≤ 8) (hd : decode cc pc = .ok (.invokestatic idx, 3))
    (h : ∀ M1, zV emb l G L R k yn cc nL rt (pc + 3) lv st M1 (K M1)) : zV emb l G L R k yn cc nL rt pc lv (.int n :: .int dp :: .ref j1 :: .int sp :: .ref j0 :: st) M (zcp M j0 n0 j1 n1 sp dp n K) := by
  intro r M' hr p e s m args below meth c H locs ls ad cx hP hD hS hl
  unfold zcp at hr
  split at hr
  · rename_i hc
    obtain ⟨h1, h2, h3, h4, h5⟩ := hc
    refine va_copyi (ty := .int) cx.1 cx.2.1 (cx.2.2.1.trans hl.1.symm) cx.2.2.2.2.2.1 (cx.2.2.2.2.2.2.1 _ hw) (cx.2.2.2.2.2.2.1 _ tw_827) (cx.2.2.2.2.2.2.1 _ tw_826) (cx.2.2.2.2.2.2.1 _ tw_95) cx.2.2.2.2.2.2.2.1 hP hD hS j0 j1 0 0 (zW_i hL0) (zW_i hL1) rfl rfl rfl h1 h2 h3 h4 h5 (fun _ _ => rfl) hk ?_ hd (fun H1 locs1 hP1 hD1 hS1 => ?_)
    · have e1 : ((st.map (zev ad)).map fun v => v.category).sum = (st.map fun v => v.category).sum := by simp [Function.comp_def, zev_cat]
      rw [e1]
      have e2 : nativeFrameWords "java/lang/System" "arraycopy" 5 = 7 := by decide +kernel
      rw [e2]
      show _ ≤ 64 * k
      omega
    · refine h _ r M' hr p e s m args below meth c H1 locs1 ls ad cx ?_ (zD_any hD) hS1 hl
      refine (congrArg (fun w => va_P G.1 vwCl w H1) ?_).mp hP1
      apply List.ext_getElem?
      intro i
      rw [List.getElem?_set]
      by_cases hij : j1 = i
      · subst hij
        have hlt : j1 < (zW G ad L M R).length := by simp [zW]; exact (List.getElem?_eq_some_iff.mp hL1).1
        rw [if_pos rfl, if_pos hlt, zW_i hL1, if_pos rfl]
      · rw [if_neg hij]
        simp only [zW, List.getElem?_mapIdx]
        rw [if_neg (fun q => hij q.symm)]
  · cases hr
end zStr
