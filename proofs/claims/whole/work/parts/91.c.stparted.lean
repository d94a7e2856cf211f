/-! PURE: step parted -/
theorem hasLines_X {M : zM} {n : Nat} {E : List (Nat × Nat)} (hW : gW n E) (hN : NetX M n E) (v : Int32) : fNet_hasLines v M = some (bI (zin v (2 ^ E.length)), M) := by
  have hl := hW.2.1
  have hpw : 2 ^ E.length ≤ 2 ^ 30 := Nat.pow_le_pow_right (by decide) hl
  have e : zush v (nI E.length) = nI (v.toBitVec.toNat / 2 ^ E.length) := by
    have h1 := zush_nI (n := v.toBitVec.toNat) (j := E.length) v.toBitVec.isLt (by omega)
    have h2 : nI v.toBitVec.toNat = v := by
      apply Int32.toBitVec_inj.1
      show BitVec.ofNat 32 v.toBitVec.toNat = v.toBitVec
      simp
    rw [h2] at h1
    exact h1
  have hd : v.toBitVec.toNat / 2 ^ E.length < 2 ^ 32 := Nat.lt_of_le_of_lt (Nat.div_le_self _ _) v.toBitVec.isLt
  have hz : zin v (2 ^ E.length) = decide (v.toBitVec.toNat / 2 ^ E.length = 0) := by
    rw [Bool.eq_iff_iff, decide_eq_true_eq]
    constructor
    · intro z
      obtain ⟨j, hj, rfl⟩ := zin_ex z (by omega)
      rw [pk_tn (by omega)]
      exact Nat.div_eq_of_lt hj
    · intro z
      have hlt : v.toBitVec.toNat < 2 ^ E.length := by
        rcases Nat.lt_or_ge v.toBitVec.toNat (2 ^ E.length) with y | y
        · exact y
        · have := Nat.div_pos y (Nat.two_pow_pos _)
          omega
      have h2 : nI v.toBitVec.toNat = v := by
        apply Int32.toBitVec_inj.1
        show BitVec.ofNat 32 v.toBitVec.toNat = v.toBitVec
        simp
      rw [← h2]
      exact zin_nI hlt (by omega)
  rw [fNet_hasLines, hN.2.1, e, hz, zbl_0, zbl_1]
  by_cases h0 : v.toBitVec.toNat / 2 ^ E.length = 0
  · rw [h0, if_neg (show ¬ ¬ nI 0 = 0 from not_not_intro rfl), decide_eq_true rfl]
    rfl
  · rw [if_pos, decide_eq_false h0]
    · rfl
    · intro z
      have := congrArg (fun y : Int32 => y.toBitVec.toNat) z
      rw [pk_tn hd] at this
      exact h0 this
theorem l64_shr {j k : Nat} (hj : j < 2 ^ 31) (hk : k < 31) : lg_cmp (zlshr (nI j).toInt64 (nI k)) 0 = 0 ↔ j / 2 ^ k = 0 := by
  have e : zlshr (nI j).toInt64 (nI k) = lN (j / 2 ^ k) := by
    unfold zlshr
    rw [nI_l hj, nI_l (show k < 2 ^ 31 by omega)]
    have h63 : lN k &&& 63 = lN k := by
      rw [show (63 : Int64) = lN (2 ^ 6 - 1) from rfl, fb_maskL, Nat.mod_eq_of_lt (by omega)]
    rw [h63]
    apply Int64.toInt_inj.mp
    rw [pk_lT (show j / 2 ^ k < 2 ^ 63 from Nat.lt_of_le_of_lt (Nat.div_le_self _ _) (by omega))]
    have h2 : ∀ k : Fin 31, ((lN k.val).toBitVec.smod 64).toNat = k.val := by decide +kernel
    show ((lN j).toBitVec.sshiftRight ((lN k).toBitVec.smod 64).toNat).toInt = _
    rw [h2 ⟨k, hk⟩, BitVec.toInt_sshiftRight]
    show (lN j).toInt >>> k = _
    rw [pk_lT (by omega), Int.shiftRight_eq_div_pow]
    rfl
  rw [e]
  have hlt : j / 2 ^ k < 2 ^ 63 := Nat.lt_of_le_of_lt (Nat.div_le_self _ _) (by omega)
  unfold lg_cmp
  by_cases h0 : j / 2 ^ k = 0
  · rw [h0]
    simp only [iff_true]
    decide
  · have h1 : lN (j / 2 ^ k) > 0 := (pk_lLT (a := 0) (by decide) hlt).mpr (Nat.pos_of_ne_zero h0)
    simp only [h1, if_true, h0, iff_false]
    decide
theorem partedY_ok {M : zM} {n : Nat} {E : List (Nat × Nat)} (hW : gW n E) (hN : NetY M n E) {a b s : Nat} (ha : a < n) (hb : b < n) (hs : s < 2 ^ E.length) (hp : popc s ≤ 6) : ∃ (r : Bool) (M2 : zM), fMd_parted (nI a) (nI b) (nI s) M = some (bI r, M2) ∧ (r = true ↔ PT n E a b s) ∧ fq zY M M2 := by
  have hn := hW.1.2
  have hl := hW.2.1
  have hs30 : s < 2 ^ 30 := Nat.lt_of_lt_of_le hs (Nat.pow_le_pow_right (by decide) hl)
  obtain ⟨M1, a1, a2, a3⟩ := findTree_q hW hN
  obtain ⟨r, M2, b1, b2, b3⟩ := isParted_Y hW (fq_netY a3 hN (fun k => by omega)) a2 ha hb hs (Nat.le_trans (fb_ct_mono _ (by omega)) hp)
  refine ⟨r, M2, ?_, b2, fq_tr a3 (fq_mono b3 (fun c k h => by omega))⟩
  rw [fMd_parted, noPost_ok hN hW, cl_some, zin_nI ha (by omega), Bool.not_true, bI_f, if_neg (not_not_intro rfl), noPost_ok hN hW, cl_some, zin_nI hb (by omega), Bool.not_true, bI_f, if_neg (not_not_intro rfl), if_neg (nI_nlt0 (by omega)), hN.2.1, if_pos ((l64_shr (by omega) (by omega)).mpr (Nat.div_eq_of_lt hs)), ones_ok (by omega), cl_some, if_pos (show nI (popc s) ≤ 6 from nI_le (b := 6) hp (by omega)), a1, cl_some, b1, cl_some, bit_ok, cl_some]
theorem st_parted (a0 a1 a2 : Int32) : zStep Rl (fun M => fNN_parted a0 a1 a2 M) (fun M => fMd_parted a0 a1 a2 M) := by
  rintro Mx My t ht ⟨n, E, B, tx, an, pl, c, h⟩
  have hW := h.1
  have hn := hW.1.2
  have hl := hW.2.1
  have hpw : 2 ^ E.length ≤ 2 ^ 30 := Nat.pow_le_pow_right (by decide) hl
  have hX := h.2.2.2.2.1
  have hY := h.2.2.2.2.2.1
  rcases zin3_cases a0 (n := n) (by omega) with ⟨a, ha, rfl, h1⟩ | h1
  · rcases zin3_cases a1 (n := n) (by omega) with ⟨b, hb, rfl, h2⟩ | h2
    · have ex : fNN_parted (nI a) (nI b) a2 Mx = if ¬ bI (zin a2 (2 ^ E.length)) = 0 then (cl (fJ6_bitCount a2 Mx) fun r6 M5 => if r6 ≤ 6 then (cl (fCuts_parts (nI a) (nI b) a2 M5) fun r8 M7 => if r8 = 0 then some (0, M7) else some (1, M7)) else some (-1002, M5)) else some (-1001, Mx) := by
        rw [fNN_parted, hasPosts_ok hX.1 hW, cl_some, h1, h2, Bool.and_true, bI_t, if_neg (by decide), hasLines_X hW hX.1, cl_some]
      rcases zin3_cases a2 (n := 2 ^ E.length) (by omega) with ⟨s, hs, rfl, h3⟩ | h3
      · have hs30 : s < 2 ^ 30 := by omega
        rw [h3, bI_t, if_pos (by decide), bitCount_ok (by omega), cl_some] at ex
        by_cases hp : popc s ≤ 6
        · obtain ⟨r, M2, x1, x2, x3, x4⟩ := parts_X hW hX.1 hX.2.1 ha hb hs30 hp
          obtain ⟨r2, M3, y1, y2, y3⟩ := partedY_ok hW hY ha hb hs hp
          have hrr : r = r2 := by rw [Bool.eq_iff_iff, x2, y2]
          subst hrr
          refine ⟨bI r, M2, M3, ?_, y1, Rl_rd h (zRd_of_zL x4) x3 y3⟩
          show fNN_parted (nI a) (nI b) (nI s) Mx = _
          rw [ex, if_pos (show nI (popc s) ≤ 6 from nI_le (b := 6) hp (by omega)), x1, cl_some]
          cases r <;> simp [bI]
        · have hpl : popc s ≤ 32 := popc_lt
          have hn6 : ¬ nI (popc s) ≤ 6 := nI_ge (a := 6) (by omega) (by omega)
          refine ⟨-1002, Mx, My, ?_, ?_, Rl_same h⟩
          · show fNN_parted (nI a) (nI b) (nI s) Mx = _
            rw [ex, if_neg hn6]
          · show fMd_parted (nI a) (nI b) (nI s) My = _
            rw [fMd_parted, noPost_ok hY hW, cl_some, h1, Bool.not_true, bI_f, if_neg (not_not_intro rfl), noPost_ok hY hW, cl_some, h2, Bool.not_true, bI_f, if_neg (not_not_intro rfl), if_neg (nI_nlt0 (by omega)), hY.2.1, if_pos ((l64_shr (by omega) (by omega)).mpr (Nat.div_eq_of_lt hs)), ones_ok (by omega), cl_some, if_neg hn6]
      · refine ⟨-1001, Mx, My, ?_, ?_, Rl_same h⟩
        · show fNN_parted (nI a) (nI b) a2 Mx = _
          rw [ex, h3, bI_f, if_neg (not_not_intro rfl)]
        · show fMd_parted (nI a) (nI b) a2 My = _
          rw [fMd_parted, noPost_ok hY hW, cl_some, h1, Bool.not_true, bI_f, if_neg (not_not_intro rfl), noPost_ok hY hW, cl_some, h2, Bool.not_true, bI_f, if_neg (not_not_intro rfl)]
          by_cases hneg : a2 < 0
          · rw [if_pos hneg]
          · rw [if_neg hneg, if_neg]
            intro z
            obtain ⟨j, hj, rfl⟩ := nI_of hneg
            rw [hY.2.1, l64_shr hj (by omega)] at z
            have hlt : j < 2 ^ E.length := by
              rcases Nat.lt_or_ge j (2 ^ E.length) with y | y
              · exact y
              · have := Nat.div_pos y (Nat.two_pow_pos _)
                omega
            rw [zin_nI hlt (by omega)] at h3
            cases h3
    · refine ⟨-1001, Mx, My, ?_, ?_, Rl_same h⟩
      · show fNN_parted (nI a) a1 a2 Mx = _
        rw [fNN_parted, hasPosts_ok hX.1 hW, cl_some, h2, Bool.and_false, bI_f, if_pos rfl]
      · show fMd_parted (nI a) a1 a2 My = _
        rw [fMd_parted, noPost_ok hY hW, cl_some, h1, Bool.not_true, bI_f, if_neg (not_not_intro rfl), noPost_ok hY hW, cl_some, h2, Bool.not_false, bI_t, if_pos (by decide)]
  · refine ⟨-1001, Mx, My, ?_, ?_, Rl_same h⟩
    · show fNN_parted a0 a1 a2 Mx = _
      rw [fNN_parted, hasPosts_ok hX.1 hW, cl_some, h1, Bool.false_and, bI_f, if_pos rfl]
    · show fMd_parted a0 a1 a2 My = _
      rw [fMd_parted, noPost_ok hY hW, cl_some, h1, Bool.not_false, bI_t, if_pos (by decide)]
