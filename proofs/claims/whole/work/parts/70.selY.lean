/-! PURE: ranks and turns in the reference -/
theorem ranks_Y {n : Nat} {E : List (Nat × Nat)} (hW : gW n E) {M : zM} (hN : NetY M n E) :
    ∃ M2, fMd_findRanks M = some ((), M2) ∧ (∀ p, p < n → M2 11 p = nI (fb_ct (fun q => bfo E q p) n)) ∧ fq (fun c _ => c = 11) M M2 := by
  have hn := hW.1.2
  rw [fMd_findRanks]
  refine lpE (f := fun fu k (_ : Unit) M => fMd_findRanks_2 fu (nI k) M) (n := n)
    (I := fun k _ M' => (∀ p, p < k → M' 11 p = nI (fb_ct (fun q => bfo E q p) n)) ∧ fq (fun c _ => c = 11) M M')
    (R := fun o => ∃ M2, o = some ((), M2) ∧ (∀ p, p < n → M2 11 p = nI (fb_ct (fun q => bfo E q p) n)) ∧ fq (fun c _ => c = 11) M M2) ?_ ?_ 0 FU () M (by omega) (fu_ok (by omega)) ⟨fun q h => by omega, fq_rf⟩
  · rintro fu - M' ⟨h1, h2⟩
    have hN' := fq_netY h2 hN (fun k => by omega)
    refine ⟨M', ?_, h1, h2⟩
    rw [fMd_findRanks_2, hN'.1, if_pos (nI_le (Nat.le_refl _) (by omega))]
  · rintro fu k - M' hk ⟨h1, h2⟩
    right
    have hN' := fq_netY h2 hN (fun k => by omega)
    have hbf : ∀ m, fb_ct (fun q => bfo E q k) m ≤ m := fun m => fb_ct_le _ _
    have inner : fMd_findRanks_14 (fMd_findRanks_2 fu) FU (nI k) 0 0 M' = fMd_findRanks_2 fu (nI (k + 1)) (zs M' 11 k (nI (fb_ct (fun q => bfo E q k) n))) := by
      refine lpE (f := fun fu2 j (_ : Unit) M => fMd_findRanks_14 (fMd_findRanks_2 fu) fu2 (nI k) (nI (fb_ct (fun q => bfo E q k) j)) (nI j) M) (n := n)
        (I := fun j _ M2 => M2 = M') (R := fun o => o = fMd_findRanks_2 fu (nI (k + 1)) (zs M' 11 k (nI (fb_ct (fun q => bfo E q k) n)))) ?_ ?_ 0 FU () M' (by omega) (fu_ok (by omega)) rfl
      · rintro fu2 - M2 rfl
        rw [fMd_findRanks_14, hN'.1, if_pos (nI_le (Nat.le_refl _) (by omega)), wr_ok (show k < 12 by omega) (by decide), nI_1]
      · rintro fu2 j - M2 hj rfl
        right
        refine ⟨(), _, ?_, rfl⟩
        have dj := Md_degree_ok hN' hW (show j < 12 by omega)
        have dk := Md_degree_ok hN' hW (show k < 12 by omega)
        have gj := gD_le E j
        have gk := gD_le E k
        have e2 : ∀ b : Bool, fMd_findRanks_59 (fMd_findRanks_14 (fMd_findRanks_2 fu) fu2) (nI k) (nI j) (bI b) (nI (fb_ct (fun q => bfo E q k) j)) M2 = fMd_findRanks_14 (fMd_findRanks_2 fu) fu2 (nI k) (nI (fb_ct (fun q => bfo E q k) j + b.toNat)) (nI (j + 1)) M2 := fun b => by
          rw [fMd_findRanks_59, bit_ok, cl_some, lt_eq, bI_nI, nI_add, nI_1]
        have e1 := e2 true
        have e0 := e2 false
        rw [bI_t] at e1
        rw [bI_f] at e0
        rw [fMd_findRanks_14, hN'.1, if_neg (nI_ge hj (by omega)), dj, cl_some, dk, cl_some, dj, cl_some, dk, cl_some, fb_ct_succ]
        unfold fMd_findRanks_58
        rw [e1, e0]
        by_cases c1 : gD E k < gD E j
        · rw [if_pos (nI_lt c1 (by omega)), if_pos (by simp [bfo, c1])]
          rfl
        · rw [if_neg (nI_nlt (by omega) (by omega))]
          by_cases c2 : gD E j = gD E k
          · rw [if_neg (by rw [c2]; exact not_not_intro rfl)]
            by_cases c3 : j < k
            · rw [if_neg (nI_ge c3 (by omega)), if_pos (by simp [bfo, c2, c3])]
              rfl
            · rw [if_pos (nI_le (by omega) (by omega)), if_neg (by simp [bfo, c2, c3])]
              rfl
          · rw [if_pos (fun z => c2 ((nI_eq (by omega) (by omega)).mp z)), if_neg (by simp [bfo, c1, c2])]
            rfl
    refine ⟨(), zs M' 11 k (nI (fb_ct (fun q => bfo E q k) n)), ?_, ?_, ?_⟩
    · rw [fMd_findRanks_2, hN'.1, if_neg (nI_ge hk (by omega)), inner]
    · intro p hp
      by_cases hpk : p = k
      · rw [hpk, zs_eq]
      · rw [zs_nk hpk]
        exact h1 p (by omega)
    · exact fq_zs h2 rfl
/-- the reference's turns while they are given -/
def tuY (M : zM) (n : Nat) (S : List Nat) : Prop := (∀ q, q < n → ¬ q ∈ S → M 10 q = -1) ∧ ∀ i q : Nat, S[i]? = some q → M 10 q = nI i
theorem tuY_neg {M : zM} {n : Nat} {S : List Nat} (h : tuY M n S) (hS : S.length ≤ 12) {q : Nat} (hq : q < n) : (0 : Int32) ≤ M 10 q ↔ q ∈ S := by
  by_cases hm : q ∈ S
  · obtain ⟨i, hi⟩ := List.mem_iff_getElem?.mp hm
    have := (List.getElem?_eq_some_iff.mp hi).1
    rw [h.2 i q hi]
    simp only [hm, iff_true]
    exact nI_ge0 (by omega)
  · rw [h.1 q hq hm]
    simp only [hm, iff_false]
    decide
theorem gX_neg {n : Nat} {E : List (Nat × Nat)} (hW : gW n E) (a b : Nat) : gX E a b < 0 ↔ gA E a b = false := by
  cases h : gA E a b with
  | true =>
    have := gX_adj h
    rw [this.1]
    have h2 := hW.2.1
    simp only [Bool.true_eq_false, iff_false]
    exact nI_nlt0 (by omega)
  | false =>
    rw [gX_not h]
    simp only [iff_true]
    decide
theorem kyJ_n {n : Nat} {E : List (Nat × Nat)} (hW : gW n E) (S : List Nat) (p : Nat) : fb_ct (fun q => gA E p q && decide (¬ q ∈ S)) n = kyJ E S p := by
  have hn := hW.1.2
  unfold kyJ
  obtain ⟨d, hd⟩ : ∃ d, 12 = n + d := ⟨12 - n, by omega⟩
  rw [hd, fb_ct_split]
  have : fb_ct (fun k => gA E p (n + k) && decide (¬ n + k ∈ S)) d = 0 := fb_ct_zero.mpr (fun k _ => by
    simp only [Bool.and_eq_false_iff]
    left
    rw [Bool.eq_false_iff]
    intro z
    have := (gA_lt hW z).2.1
    omega)
  omega
theorem turn1_Y {n : Nat} {E : List (Nat × Nat)} (hW : gW n E) {M : zM} (hN : NetY M n E) {S : List Nat} (hS : S.length < n) (hT : tuY M n S) {j : Nat} (ha : am (fun p => decide (¬ p ∈ S)) (kyJ E S) n = some j) (k25 : Int32 → zM → Option (Unit × zM)) :
    fMd_findTurns_40 k25 FU (nI S.length) (-1) 0 0 M = k25 (nI (S.length + 1)) (zs M 10 j (nI S.length)) := by
  have hn := hW.1.2
  have hkle : ∀ p m, fb_ct (fun q => gA E p q && decide (¬ q ∈ S)) m ≤ m := fun p m => fb_ct_le _ _
  refine lpE (f := fun fu k (s : Int32 × Int32) M => fMd_findTurns_40 k25 fu (nI S.length) s.1 s.2 (nI k) M) (n := n)
    (I := fun k s M' => M' = M ∧ (match am (fun p => decide (¬ p ∈ S)) (kyJ E S) k with
      | none => s.1 = -1
      | some j => s.1 = nI j ∧ s.2 = nI (kyJ E S j))) (R := fun o => o = k25 (nI (S.length + 1)) (zs M 10 j (nI S.length))) ?_ ?_ 0 FU (-1, 0) M (by omega) (fu_ok (by omega)) ⟨rfl, rfl⟩
  · rintro fu ⟨s1, s2⟩ M' ⟨rfl, h⟩
    rw [ha] at h
    have := (am_some ha).1
    rw [fMd_findTurns_40, hN.1, if_pos (nI_le (Nat.le_refl _) (by omega)), h.1, wr_ok (show j < 12 by omega) (by decide), nI_1]
  · rintro fu k ⟨s1, s2⟩ M' hk ⟨rfl, h⟩
    right
    have hky := kyJ_lt hW S hk
    have hneg := tuY_neg hT (by omega) hk
    have inner : fMd_findTurns_55 (fMd_findTurns_40 k25 fu) FU (nI S.length) s1 s2 (nI k) 0 0 M' =
        (if k ∈ S then fMd_findTurns_40 k25 fu (nI S.length) s1 s2 (nI (k + 1)) M' else if s1 < 0 then fMd_findTurns_40 k25 fu (nI S.length) (nI k) (nI (kyJ E S k)) (nI (k + 1)) M' else if s2 ≤ nI (kyJ E S k) then fMd_findTurns_40 k25 fu (nI S.length) s1 s2 (nI (k + 1)) M' else fMd_findTurns_40 k25 fu (nI S.length) (nI k) (nI (kyJ E S k)) (nI (k + 1)) M') := by
      refine lpE (f := fun fu2 q (_ : Unit) M => fMd_findTurns_55 (fMd_findTurns_40 k25 fu) fu2 (nI S.length) s1 s2 (nI k) (nI (fb_ct (fun q => gA E k q && decide (¬ q ∈ S)) q)) (nI q) M) (n := n)
        (I := fun _ _ M2 => M2 = M') (R := fun o => o = (if k ∈ S then fMd_findTurns_40 k25 fu (nI S.length) s1 s2 (nI (k + 1)) M' else if s1 < 0 then fMd_findTurns_40 k25 fu (nI S.length) (nI k) (nI (kyJ E S k)) (nI (k + 1)) M' else if s2 ≤ nI (kyJ E S k) then fMd_findTurns_40 k25 fu (nI S.length) s1 s2 (nI (k + 1)) M' else fMd_findTurns_40 k25 fu (nI S.length) (nI k) (nI (kyJ E S k)) (nI (k + 1)) M')) ?_ ?_ 0 FU () M' (by omega) (fu_ok (by omega)) rfl
      · rintro fu2 - M2 rfl
        rw [fMd_findTurns_55, hN.1, if_pos (nI_le (Nat.le_refl _) (by omega)), rd_ok (show k < 12 by omega) (by decide), nI_1, kyJ_n hW]
        simp only [hneg]
      · rintro fu2 q - M2 hq rfl
        right
        refine ⟨(), _, ?_, rfl⟩
        have hnq := tuY_neg hT (by omega) hq
        have e2 : ∀ b : Bool, fMd_findTurns_92 (fMd_findTurns_55 (fMd_findTurns_40 k25 fu) fu2) (nI S.length) s1 s2 (nI k) (nI q) (bI b) (nI (fb_ct (fun q => gA E k q && decide (¬ q ∈ S)) q)) M2 = fMd_findTurns_55 (fMd_findTurns_40 k25 fu) fu2 (nI S.length) s1 s2 (nI k) (nI (fb_ct (fun q => gA E k q && decide (¬ q ∈ S)) q + b.toNat)) (nI (q + 1)) M2 := fun b => by
          rw [fMd_findTurns_92, bit_ok, cl_some, lt_eq, bI_nI, nI_add, nI_1]
        have e1 := e2 true
        have e0 := e2 false
        rw [bI_t] at e1
        rw [bI_f] at e0
        rw [fMd_findTurns_55, hN.1, if_neg (nI_ge hq (by omega)), rd_ok (show q < 12 by omega) (by decide), Md_lineOf_ok hN hW (show k < 12 by omega) (show q < 12 by omega), cl_some, fb_ct_succ]
        unfold fMd_findTurns_91
        rw [e1, e0]
        simp only [hnq, gX_neg hW]
        by_cases c1 : q ∈ S
        · rw [if_pos c1, if_neg (by simp [c1])]
          rfl
        · rw [if_neg c1]
          cases c2 : gA E k q with
          | true =>
            rw [if_neg (by decide), if_pos (by simp [c1])]
            rfl
          | false =>
            rw [if_pos rfl, if_neg (by simp)]
            rfl
    rw [fMd_findTurns_40, hN.1, if_neg (nI_ge hk (by omega)), inner, am]
    by_cases hkS : k ∈ S
    · simp only [hkS, not_true, decide_false, Bool.false_eq_true, if_false, if_true] at h ⊢
      exact ⟨(s1, s2), _, rfl, rfl, h⟩
    · simp only [hkS, not_false_eq_true, decide_true, if_true, if_false] at h ⊢
      cases hb : am (fun p => decide (¬ p ∈ S)) (kyJ E S) k with
      | none =>
        rw [hb] at h
        rw [h, if_pos (by decide)]
        exact ⟨(nI k, nI (kyJ E S k)), _, rfl, rfl, rfl, rfl⟩
      | some i =>
        rw [hb] at h
        obtain ⟨i1, -⟩ := am_some hb
        have hki := kyJ_lt hW S (show i < n by omega)
        simp only
        rw [h.1, h.2, if_neg (nI_nlt0 (by omega))]
        by_cases hlt : kyJ E S k < kyJ E S i
        · rw [if_neg (nI_ge hlt (by omega)), if_pos hlt]
          exact ⟨(nI k, nI (kyJ E S k)), _, rfl, rfl, rfl, rfl⟩
        · rw [if_pos (nI_le (by omega) (by omega)), if_neg hlt]
          exact ⟨(nI i, nI (kyJ E S i)), _, rfl, rfl, rfl, rfl⟩
theorem turns_Y {n : Nat} {E : List (Nat × Nat)} (hW : gW n E) {M : zM} (hN : NetY M n E) :
    ∃ M2, fMd_findTurns M = some ((), M2) ∧ tuY M2 n (sel (kyJ E) n n) ∧ fq (fun c _ => c = 10) M M2 := by
  have hn := hW.1.2
  rw [fMd_findTurns]
  refine lpE (f := fun fu k (_ : Unit) M => fMd_findTurns_2 fu (nI k) M) (n := n)
    (I := fun k _ M' => (∀ q, q < k → M' 10 q = -1) ∧ fq (fun c _ => c = 10) M M')
    (R := fun o => ∃ M2, o = some ((), M2) ∧ tuY M2 n (sel (kyJ E) n n) ∧ fq (fun c _ => c = 10) M M2) ?_ ?_ 0 FU () M (by omega) (fu_ok (by omega)) ⟨fun q h => by omega, fq_rf⟩
  · rintro fu - M' ⟨h1, h2⟩
    have hN' := fq_netY h2 hN (fun k => by omega)
    rw [fMd_findTurns_2, hN'.1, if_pos (nI_le (Nat.le_refl _) (by omega))]
    refine lpE (f := fun fu k (_ : Unit) M => fMd_findTurns_25 fu (nI k) M) (n := n)
      (I := fun k _ M' => tuY M' n (sel (kyJ E) n k) ∧ fq (fun c _ => c = 10) M M')
      (R := fun o => ∃ M2, o = some ((), M2) ∧ tuY M2 n (sel (kyJ E) n n) ∧ fq (fun c _ => c = 10) M M2) ?_ ?_ 0 FU () M' (by omega) (fu_ok (by omega)) ⟨⟨fun q hq _ => h1 q hq, fun i q h => (by cases h)⟩, h2⟩
    · rintro fu - M3 ⟨h3, h4⟩
      have hN3 := fq_netY h4 hN (fun k => by omega)
      refine ⟨M3, ?_, h3, h4⟩
      rw [fMd_findTurns_25, hN3.1, if_pos (nI_le (Nat.le_refl _) (by omega))]
    · rintro fu k - M3 hk ⟨h3, h4⟩
      right
      have hN3 := fq_netY h4 hN (fun k => by omega)
      obtain ⟨j, ha, hs, hj, hjS⟩ := sel_next (key := kyJ E) hk
      have hlen := sel_len (key := kyJ E) (n := n) k
      have ht := turn1_Y hW hN3 (by omega) h3 ha (fMd_findTurns_25 fu)
      rw [hlen] at ht
      refine ⟨(), zs M3 10 j (nI k), ?_, ⟨fun q hq hqS => ?_, fun i q hiq => ?_⟩, fq_zs h4 rfl⟩
      · rw [fMd_findTurns_25, hN3.1, if_neg (nI_ge hk (by omega)), ht]
      · rw [hs, mem_app1, not_or] at hqS
        rw [zs_nk hqS.2]
        exact h3.1 q hq hqS.1
      · rw [hs] at hiq
        rcases app_get hiq with ⟨g1, g2⟩ | ⟨g1, g2⟩
        · rw [zs_nk (show ¬ q = j from fun z => hjS (z ▸ List.mem_of_getElem? g2))]
          exact h3.2 i q g2
        · rw [g1, g2, zs_eq, hlen]
  · rintro fu k - M' hk ⟨h1, h2⟩
    right
    have hN' := fq_netY h2 hN (fun k => by omega)
    refine ⟨(), zs M' 10 k (-1), ?_, fun q hq => ?_, fq_zs h2 rfl⟩
    · rw [fMd_findTurns_2, hN'.1, if_neg (nI_ge hk (by omega)), wr_ok (show k < 12 by omega) (by decide), nI_1]
    · by_cases hqk : q = k
      · rw [hqk, zs_eq]
      · rw [zs_nk hqk]
        exact h1 q (by omega)
