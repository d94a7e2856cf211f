/-! PURE: turns and ranks kept in rows -/
def selX (M : zM) (ca cb : Nat) (S : List Nat) : Prop := ∀ i q : Nat, S[i]? = some q → M ca q = nI i ∧ M cb i = nI q
theorem selX_add {M : zM} {ca cb : Nat} {S : List Nat} {j : Nat} (hab : ¬ ca = cb) (h : selX M ca cb S) (hj : ¬ j ∈ S) : selX (zs (zs M ca j (nI S.length)) cb S.length (nI j)) ca cb (S ++ [j]) := by
  intro i q hq
  rcases app_get hq with ⟨h1, h2⟩ | ⟨h1, h2⟩
  · have hqj : ¬ q = j := fun z => hj (z ▸ List.mem_of_getElem? h2)
    rw [zs_nc hab, zs_nk hqj, zs_nk (by omega), zs_nc (fun z => hab z.symm)]
    exact h i q h2
  · rw [h1, h2, zs_nc hab, zs_eq, zs_eq]
    exact ⟨rfl, rfl⟩
theorem turns_X {n : Nat} {E : List (Nat × Nat)} (hW : gW n E) {c0 : Nat} {M : zM} (hN : NetX M n E) :
    ∃ M2, fLabels_nameJoined c0 M = fLabels_nameJoined_65 FU c0 0 M2 ∧ selX M2 17 18 (sel (kyJ E) n n) ∧ fq (fun c _ => c = 17 ∨ c = 18) M M2 := by
  have hn := hW.1.2
  rw [fLabels_nameJoined, lt_eq, hN.1, lft_0 hn]
  refine lpE (f := fun fu k (_ : Unit) M => fLabels_nameJoined_14 fu c0 (nI (lft n (sel (kyJ E) n k))) (nI k) M) (n := n)
    (I := fun k _ M' => selX M' 17 18 (sel (kyJ E) n k) ∧ fq (fun c _ => c = 17 ∨ c = 18) M M')
    (R := fun o => ∃ M2, o = fLabels_nameJoined_65 FU c0 0 M2 ∧ selX M2 17 18 (sel (kyJ E) n n) ∧ fq (fun c _ => c = 17 ∨ c = 18) M M2) ?_ ?_ 0 FU () M (by omega) (fu_ok (by omega)) ⟨fun i q h => (by cases h), fq_rf⟩
  · rintro fu - M' ⟨h1, h2⟩
    have hN' := fq_net h2 hN (fun k => by omega)
    refine ⟨M', ?_, h1, h2⟩
    rw [fLabels_nameJoined_14, hN'.1, if_pos (nI_le (Nat.le_refl _) (by omega))]
  · rintro fu k - M' hk ⟨h1, h2⟩
    right
    have hN' := fq_net h2 hN (fun k => by omega)
    obtain ⟨j, ha, hs, hj, hjS⟩ := sel_next (key := kyJ E) hk
    have hlen := sel_len (key := kyJ E) (n := n) k
    have hX := selX_add (show ¬ 17 = 18 by decide) h1 hjS
    rw [hlen] at hX
    refine ⟨(), zs (zs M' 17 j (nI k)) 18 k (nI j), ?_, by rw [hs]; exact hX, fq_zs (fq_zs h2 (by omega)) (by omega)⟩
    rw [fLabels_nameJoined_14, hN'.1, if_neg (nI_ge hk (by omega)), fewest_ok hW hN', cl_some, ha]
    simp only [Option.getD_some]
    rw [wr_ok (show j < 12 by omega) (by decide), wr_ok (show k < 12 by omega) (by decide), lt_eq, lft_step hn hj, ← hs, nI_1]
/-! ranks -/
def kyF (E : List (Nat × Nat)) (_ : List Nat) (p : Nat) : Nat := 12 - gD E p
theorem most_ok {n : Nat} {E : List (Nat × Nat)} (hW : gW n E) {M : zM} (hN : NetX M n E) (S : List Nat) :
    fLabels_mostLines (nI (lft n S)) M = some (nI ((am (fun p => decide (¬ p ∈ S)) (kyF E S) n).getD 0), M) := by
  have hn := hW.1.2
  have hl := lft_lt n S
  rw [fLabels_mostLines]
  refine lpE (f := fun fu k (s : Int32 × Int32) M => fLabels_mostLines_7 fu (nI (lft n S)) s.1 s.2 (nI k) M) (n := n)
    (I := fun k s M' => M' = M ∧ (match am (fun p => decide (¬ p ∈ S)) (kyF E S) k with
      | none => s.1 = nI 0 ∧ s.2 = -1
      | some j => s.1 = nI j ∧ s.2 = nI (gD E j))) (R := fun o => o = some (nI ((am (fun p => decide (¬ p ∈ S)) (kyF E S) n).getD 0), M)) ?_ ?_ 0 FU (0, -1) M (by omega) (fu_ok (by omega)) ⟨rfl, rfl, rfl⟩
  · rintro fu ⟨s1, s2⟩ M' ⟨rfl, h⟩
    rw [fLabels_mostLines_7, hN.1, if_pos (nI_le (Nat.le_refl _) (by omega))]
    cases ha : am (fun p => decide (¬ p ∈ S)) (kyF E S) n with
    | none =>
      rw [ha] at h
      rw [h.1]
      rfl
    | some j =>
      rw [ha] at h
      rw [h.1]
      rfl
  · rintro fu k ⟨s1, s2⟩ M' hk ⟨rfl, h⟩
    right
    have hky := gD_le E k
    have hbit : ((zshr (nI (lft n S)) (nI k)) &&& 1) = bI (decide (¬ k ∈ S)) := by
      rw [zbit (by omega) (by omega), lft_bit hn]
      simp [hk]
    rw [fLabels_mostLines_7, hN.1, if_neg (nI_ge hk (by omega)), hbit, nI_1, degree_ok hN (show k < 12 by omega), cl_some, degree_ok hN (show k < 12 by omega), cl_some]
    rw [am]
    by_cases hkS : k ∈ S
    · simp only [hkS, not_true, decide_false, bI_f, Bool.false_eq_true, if_false] at h ⊢
      rw [if_pos (show ¬ (0 : Int32) = 1 by decide)]
      exact ⟨(s1, s2), _, rfl, rfl, h⟩
    · simp only [hkS, not_false_eq_true, decide_true, bI_t, if_true] at h ⊢
      rw [if_neg (not_not_intro trivial)]
      cases ha : am (fun p => decide (¬ p ∈ S)) (kyF E S) k with
      | none =>
        rw [ha] at h
        rw [h.2, if_neg (nI_lem (by omega))]
        exact ⟨(nI k, nI (gD E k)), _, rfl, rfl, rfl, rfl⟩
      | some j =>
        rw [ha] at h
        have hkj := gD_le E j
        simp only
        rw [h.2]
        unfold kyF
        by_cases hlt : gD E j < gD E k
        · rw [if_neg (nI_ge hlt (by omega)), if_pos (by omega)]
          exact ⟨(nI k, nI (gD E k)), _, rfl, rfl, rfl, rfl⟩
        · rw [if_pos (nI_le (by omega) (by omega)), if_neg (by omega)]
          exact ⟨(s1, nI (gD E j)), _, rfl, rfl, h.1, rfl⟩
theorem ranks_X {n : Nat} {E : List (Nat × Nat)} (hW : gW n E) {c0 : Nat} {M : zM} (hN : NetX M n E) :
    ∃ M2, fLabels_nameFar c0 M = fLabels_nameFar_65 FU c0 0 M2 ∧ selX M2 19 20 (sel (kyF E) n n) ∧ fq (fun c _ => c = 19 ∨ c = 20) M M2 := by
  have hn := hW.1.2
  rw [fLabels_nameFar, lt_eq, hN.1, lft_0 hn]
  refine lpE (f := fun fu k (_ : Unit) M => fLabels_nameFar_14 fu c0 (nI (lft n (sel (kyF E) n k))) (nI k) M) (n := n)
    (I := fun k _ M' => selX M' 19 20 (sel (kyF E) n k) ∧ fq (fun c _ => c = 19 ∨ c = 20) M M')
    (R := fun o => ∃ M2, o = fLabels_nameFar_65 FU c0 0 M2 ∧ selX M2 19 20 (sel (kyF E) n n) ∧ fq (fun c _ => c = 19 ∨ c = 20) M M2) ?_ ?_ 0 FU () M (by omega) (fu_ok (by omega)) ⟨fun i q h => (by cases h), fq_rf⟩
  · rintro fu - M' ⟨h1, h2⟩
    have hN' := fq_net h2 hN (fun k => by omega)
    refine ⟨M', ?_, h1, h2⟩
    rw [fLabels_nameFar_14, hN'.1, if_pos (nI_le (Nat.le_refl _) (by omega))]
  · rintro fu k - M' hk ⟨h1, h2⟩
    right
    have hN' := fq_net h2 hN (fun k => by omega)
    obtain ⟨j, ha, hs, hj, hjS⟩ := sel_next (key := kyF E) hk
    have hlen := sel_len (key := kyF E) (n := n) k
    have hX := selX_add (show ¬ 19 = 20 by decide) h1 hjS
    rw [hlen] at hX
    refine ⟨(), zs (zs M' 19 j (nI k)) 20 k (nI j), ?_, by rw [hs]; exact hX, fq_zs (fq_zs h2 (by omega)) (by omega)⟩
    rw [fLabels_nameFar_14, hN'.1, if_neg (nI_ge hk (by omega)), most_ok hW hN', cl_some, ha]
    simp only [Option.getD_some]
    rw [wr_ok (show j < 12 by omega) (by decide), wr_ok (show k < 12 by omega) (by decide), lt_eq, lft_step hn hj, ← hs, nI_1]
/-! the reference's ranks: by counting -/
def bfo (E : List (Nat × Nat)) (q p : Nat) : Bool := decide (gD E p < gD E q) || (decide (gD E q = gD E p) && decide (q < p))
theorem sel_pre {key : List Nat → Nat → Nat} {n : Nat} : ∀ (t i : Nat), i ≤ t → sel key n i = (sel key n t).take i := by
  intro t i h
  induction t with
  | zero =>
    have : i = 0 := by omega
    rw [this]
    rfl
  | succ t ih =>
    by_cases hi : i = t + 1
    · rw [hi, List.take_of_length_le (by rw [sel_len]; exact Nat.le_refl _)]
    · rw [ih (by omega), sel, List.take_append_of_le_length (by rw [sel_len]; omega)]
theorem sel_get {key : List Nat → Nat → Nat} {n t i q : Nat} (hi : i < t) (ht : t ≤ n) : (sel key n t)[i]? = some q ↔ am (fun p => decide (¬ p ∈ sel key n i)) (key (sel key n i)) n = some q := by
  obtain ⟨j, ha, hs, -, -⟩ := sel_next (key := key) (n := n) (t := i) (by omega)
  have h1 := sel_pre (key := key) (n := n) t (i + 1) (by omega)
  rw [hs] at h1
  have h2 : (sel key n t)[i]? = some j := by
    have : ((sel key n t).take (i + 1))[i]? = some j := by
      rw [← h1, List.getElem?_append_right (by rw [sel_len]; exact Nat.le_refl _), sel_len]
      simp
    rw [List.getElem?_take] at this
    simpa using this
  rw [h2, ha]
theorem rank_ct {n : Nat} {E : List (Nat × Nat)} {i p : Nat} (hi : i < n) (hp : (sel (kyF E) n n)[i]? = some p) : fb_ct (fun q => bfo E q p) n = i := by
  have hn : n ≤ n := Nat.le_refl _
  obtain ⟨h1, h2, h3, -⟩ := sel_ct (key := kyF E) (n := n) i (by omega)
  have ha := (sel_get hi hn).mp hp
  obtain ⟨a1, a2, a3⟩ := am_some ha
  have hno : ¬ p ∈ sel (kyF E) n i := by simpa using a2
  rw [← h3]
  apply fb_ct_cong
  intro q hq
  have gp := gD_le E p
  have gq := gD_le E q
  by_cases hqS : q ∈ sel (kyF E) n i
  · simp only [hqS, decide_true]
    obtain ⟨k, hk⟩ := List.mem_iff_getElem?.mp hqS
    have hki : k < i := by
      have := (List.getElem?_eq_some_iff.mp hk).1
      rw [sel_len] at this
      exact this
    have hb := (sel_get hki (by omega)).mp hk
    obtain ⟨b1, b2, b3⟩ := am_some hb
    have hpk : ¬ p ∈ sel (kyF E) n k := fun z => hno (by
      rw [sel_pre i k (by omega)] at z
      exact List.mem_of_mem_take z)
    have := b3 p a1 (by simpa using hpk)
    have hqp : ¬ q = p := fun z => hno (z ▸ hqS)
    unfold kyF at this
    unfold bfo
    simp only [Bool.or_eq_true, Bool.and_eq_true, decide_eq_true_eq]
    omega
  · simp only [hqS, decide_false]
    have := a3 q hq (by simpa using hqS)
    unfold kyF at this
    unfold bfo
    simp only [Bool.or_eq_false_iff, Bool.and_eq_false_iff, decide_eq_false_iff_not]
    omega
