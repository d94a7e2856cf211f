/-! PURE: steps small and feed -/
def pj (m : Nat) : Nat := m * (m - 1) / 2
theorem pairs_e {m : Nat} (h1 : 1 ≤ m) (h2 : m ≤ 100) {K : Int32 → Option (Int32 × zM)} : zdiv (nI m * (nI m - 1)) 2 K = K (nI (pj m)) := by
  have h3 : m * (m - 1) ≤ 100 * 100 := Nat.mul_le_mul h2 (by omega)
  unfold zdiv
  rw [if_neg (by decide), show nI m - 1 = nI (m - 1) from pk_sub (b := 1) h1, nI_times, show (2 : Int32) = nI 2 from rfl, pk_div (by omega) (by decide) (by decide)]
  rfl
theorem pairs_X {m : Nat} (h1 : 1 ≤ m) (h2 : m ≤ 100) (M : zM) : fSmallNets_pairs (nI m) M = some (nI (pj m), M) := by
  rw [fSmallNets_pairs, pairs_e h1 h2]
theorem pairs_Y {m : Nat} (h1 : 1 ≤ m) (h2 : m ≤ 100) (M : zM) : fMd_pairs (nI m) M = some (nI (pj m), M) := by
  rw [fMd_pairs, pairs_e h1 h2]
theorem pj_le : ∀ m, m < 5 → ∀ k, k < m → pj m + k < 10 := by decide
def pix (i j : Nat) : Nat := pj (if i < j then j else i) + if i < j then i else j
theorem pix_comm (i j : Nat) : pix i j = pix j i := by
  unfold pix
  by_cases h : i < j
  · rw [if_pos h, if_pos h, if_neg (by omega), if_neg (by omega)]
  · by_cases h2 : j < i
    · rw [if_neg h, if_neg h, if_pos h2, if_pos h2]
    · have : i = j := by omega
      rw [this]
theorem pix_lt {i j : Nat} (hi : i < 5) (hj : j < 5) (h : ¬ i = j) : pix i j < 10 := by
  unfold pix
  by_cases h1 : i < j
  · rw [if_pos h1, if_pos h1]
    exact pj_le j hj i h1
  · rw [if_neg h1, if_neg h1]
    exact pj_le i hi j (by omega)
theorem pairBit_X {i j : Nat} (hi : i < 5) (hj : j < 5) (h : ¬ i = j) (M : zM) : fSmallNets_pairBit (nI i) (nI j) M = some (nI (2 ^ pix i j), M) := by
  have hp := pix_lt hi hj h
  rw [fSmallNets_pairBit]
  unfold zmax zmin
  unfold pix at hp ⊢
  by_cases h1 : i < j
  · rw [if_pos h1, if_pos h1] at hp ⊢
    rw [if_pos (nI_lt h1 (by omega)), pairs_X (by omega) (by omega), cl_some, if_neg (nI_nlt (by omega) (by omega)), nI_add, zshl_pow (by omega)]
  · rw [if_neg h1, if_neg h1] at hp ⊢
    rw [if_neg (nI_nlt (by omega) (by omega)), pairs_X (by omega) (by omega), cl_some, if_pos (nI_lt (by omega) (by omega)), nI_add, zshl_pow (by omega)]
theorem small_X {M : zM} {n : Nat} {E : List (Nat × Nat)} (hW : gW n E) (hN : NetX M n E) (hn : n ≤ 5) : ∃ s, fSmallNets_numberOf M = some (nI s, M) ∧ s < 2 ^ 10 ∧ ∀ i, s.testBit i = true ↔ ∃ e ∈ E, pix e.1 e.2 = i := by
  have hl30 := hW.2.1
  rw [fSmallNets_numberOf]
  refine lpE (f := fun fu k (s : Nat) M => fSmallNets_numberOf_4 fu (nI s) (nI k) M) (n := E.length)
    (I := fun k s M' => M' = M ∧ s < 2 ^ 10 ∧ ∀ i, s.testBit i = true ↔ ∃ (l : Nat) (e : Nat × Nat), l < k ∧ E[l]? = some e ∧ pix e.1 e.2 = i)
    (R := fun o => ∃ s, o = some (nI s, M) ∧ s < 2 ^ 10 ∧ ∀ i, s.testBit i = true ↔ ∃ e ∈ E, pix e.1 e.2 = i) ?_ ?_ 0 FU 0 M (by omega) (fu_ok (by omega)) ⟨rfl, by decide, fun i => by
      simp only [Nat.zero_testBit, Bool.false_eq_true, false_iff]
      rintro ⟨l, e, h1, -⟩
      omega⟩
  · rintro fu s M' ⟨rfl, h1, h2⟩
    refine ⟨s, ?_, h1, fun i => ?_⟩
    · rw [fSmallNets_numberOf_4, hN.2.1, if_pos (nI_le (by omega) (by omega))]
    · rw [h2 i]
      constructor
      · rintro ⟨l, e, -, g2, g3⟩
        exact ⟨e, List.mem_of_getElem? g2, g3⟩
      · rintro ⟨e, g1, g2⟩
        obtain ⟨l, hl⟩ := List.mem_iff_getElem?.mp g1
        exact ⟨l, e, (List.getElem?_eq_some_iff.mp hl).1, hl, g2⟩
  · rintro fu k s M' hk ⟨rfl, h1, h2⟩
    right
    obtain ⟨e, he⟩ : ∃ e, E[k]? = some e := ⟨_, List.getElem?_eq_getElem hk⟩
    have hg := hW.get he
    have hm := hN.2.2.1 k e he
    have hp := pix_lt (show e.1 < 5 by omega) (show e.2 < 5 by omega) hg.2.2.2
    refine ⟨s ||| 2 ^ pix e.1 e.2, M', ?_, rfl, or_lt h1 (pow_ltk hp), fun i => ?_⟩
    · rw [fSmallNets_numberOf_4, hN.2.1, if_neg (nI_ge hk (by omega)), rd_ok (show k < 30 by omega) (by decide), rd_ok (show k < 30 by omega) (by decide), hm.1, hm.2, pairBit_X (by omega) (by omega) hg.2.2.2, cl_some, lt_eq, fa_or, nI_1]
    · rw [fb_bit_set, Bool.or_eq_true, h2 i, decide_eq_true_eq]
      constructor
      · rintro (⟨l, f, g1, g2, g3⟩ | z)
        · exact ⟨l, f, by omega, g2, g3⟩
        · exact ⟨k, e, by omega, he, z.symm⟩
      · rintro ⟨l, f, g1, g2, g3⟩
        by_cases hlk : l = k
        · rw [hlk, he] at g2
          cases Option.some.inj g2
          exact Or.inr g3.symm
        · exact Or.inl ⟨l, f, by omega, g2, g3⟩
theorem small_Y {M : zM} {n : Nat} {E : List (Nat × Nat)} (hW : gW n E) (hN : NetY M n E) (hn : n ≤ 5) : ∃ s, fMd_small_16 FU 0 0 M = some (nI s, M) ∧ s < 2 ^ 10 ∧ ∀ i, s.testBit i = true ↔ ∃ b a, b < n ∧ a < b ∧ gA E a b = true ∧ pix a b = i := by
  refine lpE (f := fun fu k (s : Nat) M => fMd_small_16 fu (nI s) (nI k) M) (n := n)
    (I := fun k s M' => M' = M ∧ s < 2 ^ 10 ∧ ∀ i, s.testBit i = true ↔ ∃ b a, b < k ∧ a < b ∧ gA E a b = true ∧ pix a b = i)
    (R := fun o => ∃ s, o = some (nI s, M) ∧ s < 2 ^ 10 ∧ ∀ i, s.testBit i = true ↔ ∃ b a, b < n ∧ a < b ∧ gA E a b = true ∧ pix a b = i) ?_ ?_ 0 FU 0 M (by omega) (fu_ok (by omega)) ⟨rfl, by decide, fun i => by
      simp only [Nat.zero_testBit, Bool.false_eq_true, false_iff]
      rintro ⟨l, e, h1, -⟩
      omega⟩
  · rintro fu s M' ⟨rfl, h1, h2⟩
    exact ⟨s, by rw [fMd_small_16, hN.1, if_pos (nI_le (by omega) (by omega))], h1, h2⟩
  · rintro fu k s M' hk ⟨rfl, h1, h2⟩
    right
    have inner : ∃ s2, fMd_small_26 (fMd_small_16 fu) FU (nI s) (nI k) 0 M' = fMd_small_16 fu (nI s2) (nI (k + 1)) M' ∧ s2 < 2 ^ 10 ∧ ∀ i, s2.testBit i = true ↔ ∃ b a, b < k + 1 ∧ a < b ∧ gA E a b = true ∧ pix a b = i := by
      refine lpE (f := fun fu2 j (s : Nat) M => fMd_small_26 (fMd_small_16 fu) fu2 (nI s) (nI k) (nI j) M) (n := k)
        (I := fun j s M2 => M2 = M' ∧ s < 2 ^ 10 ∧ ∀ i, s.testBit i = true ↔ ∃ b a, (b < k ∨ (b = k ∧ a < j)) ∧ a < b ∧ gA E a b = true ∧ pix a b = i)
        (R := fun o => ∃ s2, o = fMd_small_16 fu (nI s2) (nI (k + 1)) M' ∧ s2 < 2 ^ 10 ∧ ∀ i, s2.testBit i = true ↔ ∃ b a, b < k + 1 ∧ a < b ∧ gA E a b = true ∧ pix a b = i) ?_ ?_ 0 FU s M' (by omega) (fu_ok (by omega)) ⟨rfl, h1, fun i => by
          rw [h2 i]
          constructor
          · rintro ⟨b, a, g1, g2⟩
            exact ⟨b, a, Or.inl g1, g2⟩
          · rintro ⟨b, a, g1, g2⟩
            exact ⟨b, a, by omega, g2⟩⟩
      · rintro fu2 s M2 ⟨rfl, g1, g2⟩
        refine ⟨s, ?_, g1, fun i => ?_⟩
        · rw [fMd_small_26, if_pos (nI_le (by omega) (by omega)), nI_1]
        · rw [g2 i]
          constructor
          · rintro ⟨b, a, g3, g4, g5⟩
            exact ⟨b, a, by omega, g4, g5⟩
          · rintro ⟨b, a, g3, g4, g5⟩
            exact ⟨b, a, by omega, g4, g5⟩
      · rintro fu2 j s M2 hj ⟨rfl, g1, g2⟩
        right
        have hp : pix j k < 10 := pix_lt (by omega) (by omega) (by omega)
        have hpe : pj k + j = pix j k := by
          unfold pix
          rw [if_pos hj, if_pos hj]
        have e46 : ∀ b : Bool, fMd_small_46 (fMd_small_26 (fMd_small_16 fu) fu2) (nI k) (nI j) (bI b) (nI s) M2 = fMd_small_26 (fMd_small_16 fu) fu2 (nI (s ||| 2 ^ pix j k * b.toNat)) (nI k) (nI (j + 1)) M2 := fun b => by
          rw [fMd_small_46, bit_ok, cl_some, pairs_Y (by omega) (by omega), cl_some, nI_add, hpe, lt_eq, zshl_b (by omega), fa_or, nI_1]
        have e1 := e46 true
        have e0 := e46 false
        rw [bI_t, Bool.toNat_true, Nat.mul_one] at e1
        rw [bI_f, Bool.toNat_false, Nat.mul_zero, Nat.or_zero] at e0
        rw [fMd_small_26, if_neg (nI_ge hj (by omega)), Md_lineOf_ok hN hW (by omega) (by omega), cl_some, e1, e0]
        simp only [gX_neg hW]
        have key : ∀ i, (∃ b a, (b < k ∨ (b = k ∧ a < j + 1)) ∧ a < b ∧ gA E a b = true ∧ pix a b = i) ↔ ((∃ b a, (b < k ∨ (b = k ∧ a < j)) ∧ a < b ∧ gA E a b = true ∧ pix a b = i) ∨ (gA E j k = true ∧ i = pix j k)) := fun i => by
          constructor
          · rintro ⟨b, a, q1, q2, q3, q4⟩
            by_cases hc : b = k ∧ a = j
            · rw [hc.1, hc.2] at q3 q4
              exact Or.inr ⟨q3, q4.symm⟩
            · exact Or.inl ⟨b, a, by omega, q2, q3, q4⟩
          · rintro (⟨b, a, q1, q2, q3, q4⟩ | ⟨q1, q2⟩)
            · exact ⟨b, a, by omega, q2, q3, q4⟩
            · exact ⟨k, j, by omega, hj, q1, q2.symm⟩
        cases hg : gA E j k with
        | false =>
          rw [if_pos rfl]
          refine ⟨s, M2, rfl, rfl, g1, fun i => ?_⟩
          rw [g2 i, key i, hg]
          simp
        | true =>
          rw [if_neg (by decide)]
          refine ⟨s ||| 2 ^ pix j k, M2, rfl, rfl, or_lt g1 (pow_ltk hp), fun i => ?_⟩
          rw [fb_bit_set, Bool.or_eq_true, g2 i, key i, hg, decide_eq_true_eq]
          simp
    obtain ⟨s2, i1, i2, i3⟩ := inner
    exact ⟨s2, M', by rw [fMd_small_16, hN.1, if_neg (nI_ge hk (by omega)), i1], rfl, i2, i3⟩
theorem st_small : zStep Rl (fun M => fNN_small M) (fun M => fMd_small M) := by
  rintro Mx My t ht ⟨n, E, B, tx, an, pl, c, h⟩
  have hW := h.1
  have hn := hW.1.2
  have hX := h.2.2.2.2.1.1
  have hY := h.2.2.2.2.2.1
  by_cases h5 : n ≤ 5
  · obtain ⟨s, x1, x2, x3⟩ := small_X hW hX h5
    obtain ⟨s2, y1, y2, y3⟩ := small_Y hW hY h5
    have e : s = s2 := by
      apply Nat.eq_of_testBit_eq
      intro i
      rw [Bool.eq_iff_iff, x3 i, y3 i]
      constructor
      · rintro ⟨e, e1, e2⟩
        have hg := hW.2.2.1 e e1
        rcases Nat.lt_or_gt_of_ne hg.2.2 with z | z
        · exact ⟨e.2, e.1, hg.2.1, z, List.any_eq_true.mpr ⟨e, e1, gS_self e⟩, e2⟩
        · exact ⟨e.1, e.2, hg.1, z, List.any_eq_true.mpr ⟨e, e1, by rw [gS_comm]; exact gS_self e⟩, by rw [pix_comm]; exact e2⟩
      · rintro ⟨b, a, -, -, g3, g4⟩
        obtain ⟨e, e1, e2⟩ := List.any_eq_true.mp g3
        refine ⟨e, e1, ?_⟩
        rcases gS_true e2 with ⟨z1, z2⟩ | ⟨z1, z2⟩
        · rw [z1, z2]
          exact g4
        · rw [z1, z2, pix_comm]
          exact g4
    refine ⟨nI s, Mx, My, ?_, ?_, Rl_same h⟩
    · show fNN_small Mx = _
      rw [fNN_small, hX.1, if_pos (show nI n ≤ 5 from nI_le (b := 5) h5 (by omega)), x1, cl_some]
    · show fMd_small My = _
      rw [fMd_small, hY.1, if_pos (show nI n ≤ 5 from nI_le (b := 5) h5 (by omega)), y1, e]
  · refine ⟨-1003, Mx, My, ?_, ?_, Rl_same h⟩
    · show fNN_small Mx = _
      rw [fNN_small, hX.1, if_neg (show ¬ nI n ≤ 5 from nI_ge (a := 5) (by omega) (by omega))]
    · show fMd_small My = _
      rw [fMd_small, hY.1, if_neg (show ¬ nI n ≤ 5 from nI_ge (a := 5) (by omega) (by omega))]
/-! feed -/
def byN (x : Int64) : Nat := x.toBitVec.toNat % 256
theorem byte_Y (x : Int64) : (x &&& 255).toInt32 = nI (byN x) := by
  apply Int32.toBitVec_inj.1
  apply BitVec.eq_of_getLsbD_eq
  intro i hi
  have h1 : (nI (byN x)).toBitVec.getLsbD i = (decide (i < 8) && x.toBitVec.getLsbD i) := by
    show (BitVec.ofNat 32 (byN x)).getLsbD i = _
    rw [BitVec.getLsbD_ofNat, decide_eq_true hi, Bool.true_and]
    unfold byN
    rw [show 256 = 2 ^ 8 from rfl, Nat.testBit_mod_two_pow]
    rfl
  have h2 : ∀ j : Fin 32, (255 : Int64).toBitVec.getLsbD j.val = decide (j.val < 8) := by decide +kernel
  rw [h1]
  show (BitVec.signExtend 32 (x &&& 255).toBitVec).getLsbD i = _
  rw [BitVec.getLsbD_signExtend, decide_eq_true hi, Bool.true_and, if_pos (by omega)]
  show (x.toBitVec &&& (255 : Int64).toBitVec).getLsbD i = _
  rw [BitVec.getLsbD_and, h2 ⟨i, hi⟩, Bool.and_comm]
theorem byte_X (x : Int64) : vp_nar .byte (zi2b x.toInt32) = zi2b (nI (byN x)) := by
  unfold zi2b
  rw [pk_vb]
  congr 1
  apply Int8.toBitVec_inj.1
  apply BitVec.eq_of_getLsbD_eq
  intro i hi
  show (BitVec.signExtend 8 (BitVec.signExtend 32 x.toBitVec)).getLsbD i = (BitVec.signExtend 8 (BitVec.ofNat 32 (byN x))).getLsbD i
  rw [BitVec.getLsbD_signExtend, BitVec.getLsbD_signExtend, BitVec.getLsbD_signExtend, if_pos (by omega), if_pos (by omega), if_pos (by omega), BitVec.getLsbD_ofNat]
  unfold byN
  rw [show 256 = 2 ^ 8 from rfl, Nat.testBit_mod_two_pow]
  simp [hi, show i < 32 by omega]
  rfl
theorem byN_lt (x : Int64) : byN x < 256 := Nat.mod_lt _ (by decide)
/-- text with the bytes j2 from place v down to 0 -/
def addB (j2 : Int64) : Nat → List Nat → List Nat
  | 0, tx => tx
  | k + 1, tx => addB j2 k (tx ++ [byN (zlshr j2 (8 * nI k))])
theorem addB_len (j2 : Int64) : ∀ (k : Nat) (tx : List Nat), (addB j2 k tx).length = tx.length + k
  | 0, tx => rfl
  | k + 1, tx => by
    rw [addB, addB_len j2 k, List.length_append]
    simp
    omega
theorem addB_ok (j2 : Int64) : ∀ (k : Nat) (tx : List Nat), (∀ b ∈ tx, b < 256) → ∀ b ∈ addB j2 k tx, b < 256
  | 0, tx, h => h
  | k + 1, tx, h => by
    rw [addB]
    exact addB_ok j2 k _ (fun b hb => by
      rcases mem_app1.mp hb with z | z
      · exact h b z
      · rw [z]
        exact byN_lt _)
theorem m1_add (k : Nat) : nI (k + 1) + (-1) = nI k := pk_m1 k
theorem feed_X (j2 : Int64) : ∀ (k fu : Nat) (tx : List Nat) (M : zM), tx.length + k ≤ 200 → k < fu → M 56 2 = nI tx.length → (∀ i b : Nat, tx[i]? = some b → M 57 i = zi2b (nI b)) →
    ∃ M2, fScript_append_5 fu j2 (nI k - 1) M = some (nI (addB j2 k tx).length, M2) ∧ M2 56 2 = nI (addB j2 k tx).length ∧ (∀ i b : Nat, (addB j2 k tx)[i]? = some b → M2 57 i = zi2b (nI b)) ∧ fq (fun c i => (c = 56 ∧ i = 2) ∨ c = 57) M M2 := by
  intro k
  induction k with
  | zero =>
    intro fu tx M h1 h2 h3 h4
    obtain ⟨fu, rfl⟩ : ∃ k, fu = k + 1 := ⟨fu - 1, by omega⟩
    refine ⟨M, ?_, h3, h4, fq_rf⟩
    rw [fScript_append_5, if_pos (by decide), h3]
    rfl
  | succ k ih =>
    intro fu tx M h1 h2 h3 h4
    obtain ⟨fu, rfl⟩ : ∃ k, fu = k + 1 := ⟨fu - 1, by omega⟩
    have hr : (zs (zs M 57 tx.length (zi2b (nI (byN (zlshr j2 (8 * nI k)))))) 56 2 (nI (tx.length + 1))) 56 2 = nI (tx ++ [byN (zlshr j2 (8 * nI k))]).length := by
      rw [zs_eq, List.length_append]
      rfl
    obtain ⟨M2, i1, i2, i3, i4⟩ := ih fu (tx ++ [byN (zlshr j2 (8 * nI k))]) (zs (zs M 57 tx.length (zi2b (nI (byN (zlshr j2 (8 * nI k)))))) 56 2 (nI (tx.length + 1))) (by rw [List.length_append]; simp; omega) (by omega) hr (fun i b hb => by
      rw [zs_nc (by decide)]
      rcases app_get hb with ⟨g1, g2⟩ | ⟨g1, g2⟩
      · rw [zs_nk (by omega)]
        exact h4 i b g2
      · rw [g1, g2, zs_eq])
    refine ⟨M2, ?_, i2, i3, fq_tr (fq_zs (fq_zs fq_rf (by omega)) (by omega)) i4⟩
    rw [nI_pred, fScript_append_5, if_neg (nI_nlt0 (by omega)), h3, if_neg (show ¬ (200 : Int32) ≤ nI tx.length from nI_ge (b := 200) (by omega) (by omega)), wr_ok (show tx.length < 200 by omega) (by decide), wf_eq, zs_nc (by decide), h3, nI_1, byte_X, show nI k + (-1) = nI k - 1 from (Int32.sub_eq_add_neg (a := nI k) (b := 1)).symm]
    exact i1
theorem feed_Y (j2 : Int64) : ∀ (k fu : Nat) (tx : List Nat) (M : zM), tx.length + k ≤ 200 → k < fu → M 0 29 = nI tx.length → (∀ i b : Nat, tx[i]? = some b → M 25 i = nI b) →
    ∃ M2, fMd_feed_37 fu j2 (nI k - 1) M = some (nI (addB j2 k tx).length, M2) ∧ M2 0 29 = nI (addB j2 k tx).length ∧ (∀ i b : Nat, (addB j2 k tx)[i]? = some b → M2 25 i = nI b) ∧ fq (fun c i => (c = 0 ∧ i = 29) ∨ c = 25) M M2 := by
  intro k
  induction k with
  | zero =>
    intro fu tx M h1 h2 h3 h4
    obtain ⟨fu, rfl⟩ : ∃ k, fu = k + 1 := ⟨fu - 1, by omega⟩
    refine ⟨M, ?_, h3, h4, fq_rf⟩
    rw [fMd_feed_37, if_pos (by decide), h3]
    rfl
  | succ k ih =>
    intro fu tx M h1 h2 h3 h4
    obtain ⟨fu, rfl⟩ : ∃ k, fu = k + 1 := ⟨fu - 1, by omega⟩
    have hr : (zs (zs M 25 tx.length (nI (byN (zlshr j2 (8 * nI k))))) 0 29 (nI (tx.length + 1))) 0 29 = nI (tx ++ [byN (zlshr j2 (8 * nI k))]).length := by
      rw [zs_eq, List.length_append]
      rfl
    obtain ⟨M2, i1, i2, i3, i4⟩ := ih fu (tx ++ [byN (zlshr j2 (8 * nI k))]) (zs (zs M 25 tx.length (nI (byN (zlshr j2 (8 * nI k))))) 0 29 (nI (tx.length + 1))) (by rw [List.length_append]; simp; omega) (by omega) hr (fun i b hb => by
      rw [zs_nc (by decide)]
      rcases app_get hb with ⟨g1, g2⟩ | ⟨g1, g2⟩
      · rw [zs_nk (by omega)]
        exact h4 i b g2
      · rw [g1, g2, zs_eq])
    refine ⟨M2, ?_, i2, i3, fq_tr (fq_zs (fq_zs fq_rf (by omega)) (by omega)) i4⟩
    rw [nI_pred, fMd_feed_37, if_neg (nI_nlt0 (by omega)), h3, wr_ok (show tx.length < 200 by omega) (by decide), wf_eq, zs_nc (by decide), h3, nI_1, byte_Y, show nI k + (-1) = nI k - 1 from (Int32.sub_eq_add_neg (a := nI k) (b := 1)).symm]
    exact i1
theorem st_feed (a0 : Int32) (j1 : Int64) : zStep Rl (fun M => fNN_feed a0 j1 M) (fun M => fMd_feed a0 j1 M) := by
  rintro Mx My t ht ⟨n, E, B, tx, an, pl, c, h⟩
  have hX := h.2.2.2.2.1
  have hY := h.2.2.2.2.2
  have hsX := hX.2.2.2.2.2.2.2
  have hsY := hY.2.2
  have hO := h.2.2.2.1
  have hy : fMd_feed a0 j1 My = if ¬ bI (decide (1 ≤ a0) && decide (a0 ≤ 8)) = 0 then (if ((My 0 29) + a0) ≤ 200 then fMd_feed_37 FU j1 (a0 - 1) My else some (-1004, My)) else some (-1002, My) := by
    rw [fMd_feed, show (1 : Int64) = (1 : Int32).toInt64 from rfl, show (8 : Int64) = (8 : Int32).toInt64 from rfl, in_I, cl_some]
    rfl
  by_cases h1 : a0 < 1
  · refine ⟨-1002, Mx, My, ?_, ?_, Rl_same h⟩
    · show fNN_feed a0 j1 Mx = _
      rw [fNN_feed, if_pos h1]
    · show fMd_feed a0 j1 My = _
      rw [hy, decide_eq_false (fa_of_lt h1).2.1, Bool.false_and, bI_f, if_neg (not_not_intro rfl)]
  · have h1' : (1 : Int32) ≤ a0 := fa_of_nlt h1
    by_cases h2 : a0 ≤ 8
    · obtain ⟨k, hk, rfl⟩ : ∃ k : Nat, k ≤ 8 ∧ a0 = nI k := nI_of2 (M := 8) rfl (fun z => by
        rw [fa_lt] at z h1
        have : (0 : Int32).toInt = 0 := by decide
        have : (1 : Int32).toInt = 1 := by decide
        omega) h2
      have hl := hO.1
      rw [decide_eq_true h1', decide_eq_true h2, Bool.and_true, bI_t, if_pos (by decide), hsY.1, nI_add] at hy
      have hx : fNN_feed (nI k) j1 Mx = if nI (tx.length + k) ≤ 200 then (cl (fScript_append (nI k) j1 Mx) fun r2 M1 => some (r2, M1)) else some (-1004, Mx) := by
        rw [fNN_feed, if_neg h1, if_pos h2, hsX.1, nI_add]
      by_cases h3 : tx.length + k ≤ 200
      · have h3' : nI (tx.length + k) ≤ 200 := nI_le (b := 200) h3 (by omega)
        obtain ⟨M2, x1, x2, x3, x4⟩ := feed_X j1 k FU tx Mx h3 (fu_ok (by omega)) hsX.1 hsX.2.1
        obtain ⟨M3, y1, y2, y3, y4⟩ := feed_Y j1 k FU tx My h3 (fu_ok (by omega)) hsY.1 hsY.2.1
        refine ⟨nI (addB j1 k tx).length, M2, M3, ?_, ?_, n, E, B, addB j1 k tx, an, pl, c, h.1, by have := h.2.1; omega, h.2.2.1, ⟨by rw [addB_len]; exact h3, addB_ok j1 k tx hO.2.1, hO.2.2⟩, ?_, ?_⟩
        · show fNN_feed (nI k) j1 Mx = _
          rw [hx, if_pos h3', fScript_append, lt_eq, x1, cl_some]
        · show fMd_feed (nI k) j1 My = _
          rw [hy, if_pos h3', y1]
        · obtain ⟨g1, g2, g3, g4, g5, g6, g7, g8⟩ := hX
          exact ⟨fq_net x4 g1 (fun k => by omega), g2.fq x4 (fun c k _ _ => by omega) (by omega), g3.fq x4 (fun c k _ _ => by omega), (x4 1 2 (by omega)).trans g4, PX_fq g5 x4 (by omega) (fun k => by omega), by rw [x4 48 7 (by omega)]; exact g6, BX_fq g7 x4 (fun c k _ _ => by omega), ⟨x2, x3, (x4 _ _ (by omega)).trans g8.2.2.1, (x4 _ _ (by omega)).trans g8.2.2.2.1, fun i r hi => (x4 _ _ (by omega)).trans (g8.2.2.2.2 i r hi)⟩⟩
        · exact ⟨fq_netY y4 hY.1 (fun k => by omega), BY_fq hY.2.1 y4 (fun c k _ _ => by omega), ⟨y2, y3, (y4 _ _ (by omega)).trans hsY.2.2.1, (y4 _ _ (by omega)).trans hsY.2.2.2.1, fun i r hi => (y4 _ _ (by omega)).trans (hsY.2.2.2.2 i r hi)⟩⟩
      · have h3' : ¬ nI (tx.length + k) ≤ 200 := nI_ge (a := 200) (by omega) (by omega)
        refine ⟨-1004, Mx, My, ?_, ?_, Rl_same h⟩
        · show fNN_feed (nI k) j1 Mx = _
          rw [hx, if_neg h3']
        · show fMd_feed (nI k) j1 My = _
          rw [hy, if_neg h3']
    · refine ⟨-1002, Mx, My, ?_, ?_, Rl_same h⟩
      · show fNN_feed a0 j1 Mx = _
        rw [fNN_feed, if_neg h1, if_neg h2]
      · show fMd_feed a0 j1 My = _
        rw [hy, decide_eq_false h2, Bool.and_false, bI_f, if_neg (not_not_intro rfl)]
