/-! PURE: step holds -/
theorem rng5 (v : Int32) {N : Nat} (hN : N < 2 ^ 31) : (∃ m : Nat, 1 ≤ m ∧ m ≤ N ∧ v = nI m) ∨ (v < 1 ∨ nI N < v) := by
  by_cases h1 : v < 1
  · exact Or.inr (Or.inl h1)
  · by_cases h2 : nI N < v
    · exact Or.inr (Or.inr h2)
    · left
      have e1 : (1 : Int32).toInt = 1 := by decide
      have e0 : (0 : Int32).toInt = 0 := by decide
      obtain ⟨k, hk, e⟩ := nI_of2 (M := nI N) (n := N) (x := v) (nI_toInt hN) (fun z => by
        rw [fa_lt] at z h1
        omega) (fa_of_nlt h2)
      refine ⟨k, ?_, hk, e⟩
      rcases Nat.eq_zero_or_pos k with z | z
      · rw [e, z] at h1
        exact absurd (show nI 0 < 1 by decide) h1
      · exact z
theorem rngY {v : Int32} {N : Nat} {L : Int64} (hL : L = (nI N).toInt64) (M : zM) : fMd_in v.toInt64 1 L M = some (bI (decide (1 ≤ v) && decide (v ≤ nI N)), M) := by
  rw [hL, show (1 : Int64) = (1 : Int32).toInt64 from rfl, in_I]
theorem rng_bad {v : Int32} {N : Nat} (h : v < 1 ∨ nI N < v) : (decide (1 ≤ v) && decide (v ≤ nI N)) = false := by
  rcases h with h | h
  · rw [decide_eq_false (fa_of_lt h).2.1, Bool.false_and]
  · rw [decide_eq_false (fa_of_lt h).2.1, Bool.and_false]
theorem rng_good {m N : Nat} (h1 : 1 ≤ m) (h2 : m ≤ N) (hN : N < 2 ^ 31) : (decide (1 ≤ nI m) && decide (nI m ≤ nI N)) = true := by
  rw [decide_eq_true (show (1 : Int32) ≤ nI m from nI_le (a := 1) h1 (by omega)), decide_eq_true (nI_le h2 hN)]
  rfl
theorem pj_le10 : ∀ m, m ≤ 5 → pj m ≤ 10 := by decide
theorem isOne_X {m : Nat} (h1 : 1 ≤ m) (h2 : m ≤ 5) (v : Int32) (M : zM) : fSmallNets_isOne (nI m) v M = some (bI (zin v (2 ^ pj m)), M) := by
  have hp := pj_le10 m h2
  have hpw : 2 ^ pj m ≤ 2 ^ 10 := Nat.pow_le_pow_right (by decide) hp
  rw [fSmallNets_isOne, if_neg (show ¬ nI m < 1 from nI_nlt (b := 1) h1 (by omega)), if_neg (show ¬ (5 : Int32) < nI m from nI_nlt (a := 5) h2 (by omega)), pairs_X h1 (by omega), cl_some, zshl_pow (by omega), two_if, zin_lt (by omega)]
theorem isOne_bad {v w : Int32} (h : v < 1 ∨ (5 : Int32) < v) (M : zM) : fSmallNets_isOne v w M = some (0, M) := by
  rw [fSmallNets_isOne, zbl_0]
  rcases h with h | h
  · rw [if_pos h]
  · by_cases h1 : v < 1
    · rw [if_pos h1]
    · rw [if_neg h1, if_pos h]
theorem isOne_Y {m : Nat} (h2 : m ≤ 5) (v : Int32) (M : zM) : fMd_in v.toInt64 0 (((zshl 1 (nI (pj m))) - 1).toInt64) M = some (bI (zin v (2 ^ pj m)), M) := by
  have hp := pj_le10 m h2
  have hpw : 2 ^ pj m ≤ 2 ^ 10 := Nat.pow_le_pow_right (by decide) hp
  rw [zshl_pow (by omega)]
  exact in_size (by omega) M
theorem st_holds (a0 a1 a2 a3 : Int32) : zStep Rl (fun M => fNN_holds a0 a1 a2 a3 M) (fun M => fMd_holds a0 a1 a2 a3 M) := by
  rintro Mx My t ht ⟨n, E, B, tx, an, pl, c, h⟩
  have hC := h.2.2.2.2.1.2.1
  have hey : ∀ (v : Int32) (M : zM), fMd_in v.toInt64 1 5 M = some (bI (decide (1 ≤ v) && decide (v ≤ nI 5)), M) := fun v M => rngY (N := 5) rfl M
  rcases rng5 a0 (N := 5) (by decide) with ⟨m, m1, m2, rfl⟩ | hb
  · have hpw : 2 ^ pj m ≤ 2 ^ 10 := Nat.pow_le_pow_right (by decide) (pj_le10 m m2)
    rcases rng5 a2 (N := 5) (by decide) with ⟨k, k1, k2, rfl⟩ | hb
    · have hpk : 2 ^ pj k ≤ 2 ^ 10 := Nat.pow_le_pow_right (by decide) (pj_le10 k k2)
      have ey : fMd_holds (nI m) a1 (nI k) a3 My = if bI (zin a1 (2 ^ pj m)) = 0 then some (-1002, My) else if ¬ bI (zin a3 (2 ^ pj k)) = 0 then (cl (fMd_holdsOne (nI m) a1 (nI k) a3 My) fun r14 M13 => cl (fMd_bit r14 M13) fun r16 M15 => some (r16, M15)) else some (-1002, My) := by
        rw [fMd_holds, hey, cl_some, rng_good m1 m2 (by decide), bI_t, if_neg (by decide), hey, cl_some, rng_good k1 k2 (by decide), bI_t, if_neg (by decide), pairs_Y m1 (by omega), cl_some, isOne_Y m2, cl_some, pairs_Y k1 (by omega), cl_some, isOne_Y k2, cl_some]
      have ex : fNN_holds (nI m) a1 (nI k) a3 Mx = if bI (zin a1 (2 ^ pj m)) = 0 then some (-1002, Mx) else if ¬ bI (zin a3 (2 ^ pj k)) = 0 then (cl (fSmallNets_contains (nI m) a1 (nI k) a3 Mx) fun r6 M5 => if r6 = 0 then some (0, M5) else some (1, M5)) else some (-1002, Mx) := by
        rw [fNN_holds, isOne_X m1 m2, cl_some, isOne_X k1 k2, cl_some]
      rcases zin3_cases a1 (n := 2 ^ pj m) (by omega) with ⟨hh, q1, rfl, q2⟩ | q2
      · rw [q2, bI_t, if_neg (by decide)] at ex ey
        rcases zin3_cases a3 (n := 2 ^ pj k) (by omega) with ⟨g, r1, rfl, r2⟩ | r2
        · obtain ⟨b, M2, x1, x2, x3⟩ := contains_X (M := Mx) m2 (show hh < 2 ^ 10 by omega) (show g < 2 ^ 10 by omega) k2
          obtain ⟨b2, M3, y1, y2, y3⟩ := holdsOne_Y (M := My) m1 m2 (show hh < 2 ^ 10 by omega) (show g < 2 ^ 10 by omega) k2
          have hbb : b = b2 := by rw [Bool.eq_iff_iff, x2, y2]
          subst hbb
          rw [r2, bI_t, if_pos (by decide), x1, cl_some] at ex
          rw [r2, bI_t, if_pos (by decide), y1, cl_some, bit_ok, cl_some] at ey
          refine ⟨bI b, M2, M3, ?_, ey, Rl_rd h (fq_mono x3 (fun c k h => by omega)) (hC.fq x3 (fun c k _ _ => by omega) (by omega)) (fq_mono y3 (fun c k h => by omega))⟩
          show fNN_holds (nI m) (nI hh) (nI k) (nI g) Mx = _
          rw [ex]
          cases b <;> simp [bI]
        · refine ⟨-1002, Mx, My, ?_, ?_, Rl_same h⟩
          · show fNN_holds (nI m) (nI hh) (nI k) a3 Mx = _
            rw [ex, r2, bI_f, if_neg (not_not_intro rfl)]
          · show fMd_holds (nI m) (nI hh) (nI k) a3 My = _
            rw [ey, r2, bI_f, if_neg (not_not_intro rfl)]
      · refine ⟨-1002, Mx, My, ?_, ?_, Rl_same h⟩
        · show fNN_holds (nI m) a1 (nI k) a3 Mx = _
          rw [ex, q2, bI_f, if_pos rfl]
        · show fMd_holds (nI m) a1 (nI k) a3 My = _
          rw [ey, q2, bI_f, if_pos rfl]
    · refine ⟨-1002, Mx, My, ?_, ?_, Rl_same h⟩
      · show fNN_holds (nI m) a1 a2 a3 Mx = _
        rw [fNN_holds, isOne_X m1 m2, cl_some, isOne_bad hb, cl_some]
        cases zin a1 (2 ^ pj m) <;> simp [bI]
      · show fMd_holds (nI m) a1 a2 a3 My = _
        rw [fMd_holds, hey, cl_some, rng_good m1 m2 (by decide), bI_t, if_neg (by decide), hey, cl_some, rng_bad hb, bI_f, if_pos rfl]
  · refine ⟨-1002, Mx, My, ?_, ?_, Rl_same h⟩
    · show fNN_holds a0 a1 a2 a3 Mx = _
      rw [fNN_holds, isOne_bad hb, cl_some, if_pos rfl]
    · show fMd_holds a0 a1 a2 a3 My = _
      rw [fMd_holds, hey, cl_some, rng_bad hb, bI_f, if_pos rfl]
