/-! PURE: turns and ranks: one post after the other, in the class and in the reference -/
theorem sel_next {key : List Nat → Nat → Nat} {n t : Nat} (ht : t < n) : ∃ j, am (fun p => decide (¬ p ∈ sel key n t)) (key (sel key n t)) n = some j ∧ sel key n (t + 1) = sel key n t ++ [j] ∧ j < n ∧ ¬ j ∈ sel key n t := by
  obtain ⟨j, hj⟩ := (sel_ct (key := key) t (by omega)).2.2.2 ht
  obtain ⟨j1, j2, -⟩ := am_some hj
  refine ⟨j, hj, ?_, j1, by simpa using j2⟩
  rw [sel, hj]
  rfl
/-- what is left, as the class keeps it -/
def lft (n : Nat) (S : List Nat) : Nat := mkM (fun q => decide (q < n) && decide (¬ q ∈ S)) 12
theorem lft_lt (n : Nat) (S : List Nat) : lft n S < 2 ^ 12 := mkM_lt _ _
theorem lft_bit {n : Nat} (hn : n ≤ 12) (S : List Nat) (q : Nat) : (lft n S).testBit q = (decide (q < n) && decide (¬ q ∈ S)) := by
  unfold lft
  rw [mkM_bit]
  by_cases h : q < n
  · simp [h, show q < 12 by omega]
  · simp [h]
theorem lft_0 {n : Nat} (hn : n ≤ 12) : zshl 1 (nI n) - 1 = nI (lft n []) := by
  have h : lft n [] = 2 ^ n - 1 := by
    apply Nat.eq_of_testBit_eq
    intro i
    rw [lft_bit hn, Nat.testBit_two_pow_sub_one]
    simp
  rw [h, zshl_pow (by omega), show (1 : Int32) = nI 1 from rfl, pk_sub (Nat.two_pow_pos n)]
theorem lft_step {n : Nat} (hn : n ≤ 12) {S : List Nat} {j : Nat} (hj : j < n) : nI (lft n S) &&& (zshl 1 (nI j) ^^^ -1) = nI (lft n (S ++ [j])) := by
  rw [zshl_pow (by omega), nI_clr]
  congr 1
  apply Nat.eq_of_testBit_eq
  intro i
  rw [clr_bit (Nat.lt_trans (lft_lt n S) (by decide)), lft_bit hn, lft_bit hn]
  by_cases h : i = j
  · simp [h]
  · have h2 : ¬ j = i := fun z => h z.symm
    simp [h, h2]
def kyJ (E : List (Nat × Nat)) (S : List Nat) (p : Nat) : Nat := fb_ct (fun q => gA E p q && decide (¬ q ∈ S)) 12
theorem kyJ_lt {n : Nat} {E : List (Nat × Nat)} (hW : gW n E) (S : List Nat) {p : Nat} (hp : p < n) : kyJ E S p < 12 := by
  have h1 : kyJ E S p ≤ 12 := fb_ct_le _ _
  have h2 : ¬ kyJ E S p = 12 := fun z => by
    have := (fb_ct_all.mp z) p (by have := hW.1.2; omega)
    simp only [Bool.and_eq_true] at this
    exact (gA_lt hW this.1).2.2 rfl
  omega
theorem near_left {n : Nat} {E : List (Nat × Nat)} (hW : gW n E) (S : List Nat) {p : Nat} : popc (mkM (gA E p) 12 &&& lft n S) = kyJ E S p := by
  have h : mkM (gA E p) 12 &&& lft n S = mkM (fun q => gA E p q && decide (¬ q ∈ S)) 12 := by
    apply mkM_of (and_lt (mkM_lt _ _))
    intro j hj
    rw [Nat.testBit_and, mkM_bit, lft_bit hW.1.2]
    cases hg : gA E p j
    · simp
    · have := (gA_lt hW hg).2.1
      simp [hj, this]
  rw [h, popc_mk _ (by decide)]
  rfl
theorem fewest_ok {n : Nat} {E : List (Nat × Nat)} (hW : gW n E) {M : zM} (hN : NetX M n E) (S : List Nat) :
    fLabels_fewestLines (nI (lft n S)) M = some (nI ((am (fun p => decide (¬ p ∈ S)) (kyJ E S) n).getD 0), M) := by
  have hn := hW.1.2
  have hl := lft_lt n S
  rw [fLabels_fewestLines]
  refine lpE (f := fun fu k (s : Int32 × Int32) M => fLabels_fewestLines_8 fu (nI (lft n S)) s.1 s.2 (nI k) M) (n := n)
    (I := fun k s M' => M' = M ∧ (match am (fun p => decide (¬ p ∈ S)) (kyJ E S) k with
      | none => s.1 = nI 0 ∧ s.2 = nI 12
      | some j => s.1 = nI j ∧ s.2 = nI (kyJ E S j))) (R := fun o => o = some (nI ((am (fun p => decide (¬ p ∈ S)) (kyJ E S) n).getD 0), M)) ?_ ?_ 0 FU (0, 12) M (by omega) (fu_ok (by omega)) ⟨rfl, rfl, rfl⟩
  · rintro fu ⟨s1, s2⟩ M' ⟨rfl, h⟩
    rw [fLabels_fewestLines_8, hN.1, if_pos (nI_le (Nat.le_refl _) (by omega))]
    cases ha : am (fun p => decide (¬ p ∈ S)) (kyJ E S) n with
    | none =>
      rw [ha] at h
      rw [h.1]
      rfl
    | some j =>
      rw [ha] at h
      rw [h.1]
      rfl
  · rintro fu k ⟨s1, s2⟩ M' hk ⟨rfl, h⟩
    right
    have hky := kyJ_lt hW S hk
    have hbit : ((zshr (nI (lft n S)) (nI k)) &&& 1) = bI (decide (¬ k ∈ S)) := by
      rw [zbit (by omega) (by omega), lft_bit hn]
      simp [hk]
    rw [fLabels_fewestLines_8, hN.1, if_neg (nI_ge hk (by omega)), rd_ok (show k < 12 by omega) (by decide), hN.2.2.2 k (by omega), fa_and, bitCount_ok (and_lt (Nat.lt_trans (mkM_lt _ _) (by decide))), cl_some, near_left hW, hbit, nI_1]
    rw [am]
    by_cases hkS : k ∈ S
    · simp only [hkS, not_true, decide_false, bI_f, Bool.false_eq_true, if_false] at h ⊢
      rw [if_pos (show ¬ (0 : Int32) = 1 by decide)]
      exact ⟨(s1, s2), _, rfl, rfl, h⟩
    · simp only [hkS, not_false_eq_true, decide_true, bI_t, if_true] at h ⊢
      rw [if_neg (not_not_intro trivial)]
      cases ha : am (fun p => decide (¬ p ∈ S)) (kyJ E S) k with
      | none =>
        rw [ha] at h
        rw [h.2, if_neg (nI_ge hky (by omega))]
        exact ⟨(nI k, nI (kyJ E S k)), _, rfl, rfl, rfl, rfl⟩
      | some j =>
        rw [ha] at h
        obtain ⟨j1, -⟩ := am_some ha
        have hkj := kyJ_lt hW S (show j < n by omega)
        simp only
        rw [h.2]
        by_cases hlt : kyJ E S k < kyJ E S j
        · rw [if_neg (nI_ge hlt (by omega)), if_pos hlt]
          exact ⟨(nI k, nI (kyJ E S k)), _, rfl, rfl, rfl, rfl⟩
        · rw [if_pos (nI_le (by omega) (by omega)), if_neg hlt]
          exact ⟨(s1, nI (kyJ E S j)), _, rfl, rfl, h.1, rfl⟩
