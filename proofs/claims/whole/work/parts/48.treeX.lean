/-! PURE: the class grows the tree as told -/
theorem tIn_mem {E : List (Nat × Nat)} {p r x : Nat} : ∀ (qs : List Nat) (T : tT), x ∈ tO T → x ∈ tO (tIn E p r qs T)
  | [], _, h => h
  | q :: qs, T, h => by
    rw [tIn]
    apply tIn_mem qs
    split
    · exact mem_app1.mpr (Or.inl h)
    · exact h
theorem tIn_W {n : Nat} {E : List (Nat × Nat)} (hW : gW n E) {p r : Nat} : ∀ (qs : List Nat) (T : tT), (∀ q ∈ qs, q < n) → tW n T → tW n (tIn E p r qs T)
  | [], _, _, h => h
  | q :: qs, T, hq, h => by
    rw [tIn]
    apply tIn_W hW qs _ (fun x hx => hq x (List.mem_cons_of_mem _ hx))
    split
    · rename_i hc
      exact tW_add hW h (hq q List.mem_cons_self) hc.2 hc.1
    · exact h
theorem range'_lt {a d x n : Nat} (h : x ∈ List.range' a d) (hn : a + d ≤ n) : x < n := by
  rw [List.mem_range'_1] at h
  omega
theorem range'_cons (a d : Nat) : List.range' a (d + 1) = a :: List.range' (a + 1) d := rfl
theorem growIn_X {n : Nat} {E : List (Nat × Nat)} (hW : gW n E) {p r : Nat} {k : Int32 → Int32 → zM → Option (Unit × zM)} {i : Nat} : ∀ (d q fuel : Nat) (T : tT) (M : zM), n - q = d → q ≤ n → d < fuel → tW n T → SX M n T → NetX M n E → p ∈ tO T →
    ∃ M2, fTree_growFrom_73 k fuel (nI r) (nI i) (nI p) (nI q) M = k (nI r) (nI (i + 1)) M2 ∧ SX M2 n (tIn E p r (List.range' q d) T) ∧ fr [6, 7, 8, 12] [(5, 2), (5, 10), (5, 11)] M M2 := by
  intro d
  induction d with
  | zero =>
    intro q fuel T M hd hq hf hT hS hN hp
    obtain ⟨fuel, rfl⟩ : ∃ k, fuel = k + 1 := ⟨fuel - 1, by omega⟩
    have hn := hW.1.2
    refine ⟨M, ?_, hS, fr_rf⟩
    rw [fTree_growFrom_73, if_pos (by rw [hN.1]; exact nI_le (by omega) (by omega)), nI_1]
  | succ d ih =>
    intro q fuel T M hd hq hf hT hS hN hp
    obtain ⟨fuel, rfl⟩ : ∃ k, fuel = k + 1 := ⟨fuel - 1, by omega⟩
    have hn := hW.1.2
    have hp12 : p < 12 := by have := hT.2.1 p hp; omega
    rw [range'_cons, tIn]
    by_cases hc : gA E p q = true ∧ ¬ q ∈ tO T
    · rw [if_pos hc]
      obtain ⟨M1, h1, h2, h3⟩ := SX_add hW hN hT hS (r := r) hp (show q < n by omega) hc.2 hc.1 (k := k) (fuel := fuel) (i := nI i)
      obtain ⟨M2, g1, g2, g3⟩ := ih (q + 1) fuel _ M1 (by omega) (by omega) (by omega) (tW_add hW hT (show q < n by omega) hc.2 hc.1) h2 (hN.kept ⟨h3 1 0 rfl rfl, h3 1 1 rfl rfl⟩ ⟨funext fun kk => h3 2 kk rfl rfl, funext fun kk => h3 3 kk rfl rfl, funext fun kk => h3 4 kk rfl rfl⟩) (mem_app1.mpr (Or.inl hp))
      exact ⟨M2, h1.trans g1, g2, fr_tr h3 g3⟩
    · rw [if_neg hc]
      obtain ⟨M2, g1, g2, g3⟩ := ih (q + 1) fuel T M (by omega) (by omega) (by omega) hT hS hN hp
      refine ⟨M2, ?_, g2, g3⟩
      rw [fTree_growFrom_73, if_neg (by rw [hN.1]; exact nI_ge (show q < n by omega) (by omega)), joins_ok hN hp12 (by omega), cl_some]
      cases hg : gA E p q with
      | false =>
        rw [if_pos bI_f, nI_1]
        exact g1
      | true =>
        have hin : q ∈ tO T := Classical.byContradiction fun z => hc ⟨hg, z⟩
        rw [if_neg (by decide), hS.2.1, zbit (Nat.lt_trans (mkM_lt _ _) (by decide)) (by omega), mkM_bit]
        simp only [hin, decide_true, Bool.and_true, show q < 12 by omega]
        rw [if_pos (by decide), nI_1]
        exact g1
theorem getD_of {l : List Nat} {i : Nat} (h : i < l.length) : l[i]? = some (l.getD i 0) := by
  rw [List.getD_eq_getElem?_getD, List.getElem?_eq_getElem h]
  rfl
theorem frT {M M2 : zM} {n : Nat} {E : List (Nat × Nat)} (hN : NetX M n E) {cs : List Nat} {ps : List (Nat × Nat)} (h : fr cs ps M M2) (h1 : cs.contains 1 = false) (h2 : cs.contains 2 = false) (h3 : cs.contains 3 = false) (h4 : cs.contains 4 = false) (p1 : ps.contains (1, 0) = false) (p2 : ps.contains (1, 1) = false) (p3 : ∀ kk, ps.contains (2, kk) = false ∧ ps.contains (3, kk) = false ∧ ps.contains (4, kk) = false) : NetX M2 n E :=
  hN.kept ⟨h 1 0 h1 p1, h 1 1 h1 p2⟩ ⟨funext fun kk => h 2 kk h2 (p3 kk).1, funext fun kk => h 3 kk h3 (p3 kk).2.1, funext fun kk => h 4 kk h4 (p3 kk).2.2⟩
theorem growOut_X {n : Nat} {E : List (Nat × Nat)} (hW : gW n E) {r : Nat} : ∀ (d i fuel : Nat) (T : tT) (M : zM), 12 - i = d → i ≤ 12 → d < fuel → tW n T → SX M n T → NetX M n E →
    ∃ M2, fTree_growFrom_43 fuel (nI r) (nI i) M = some ((), M2) ∧ SX M2 n (tOut E n r d i T) ∧ tW n (tOut E n r d i T) ∧ fr [6, 7, 8, 12] [(5, 2), (5, 10), (5, 11)] M M2 := by
  intro d
  induction d with
  | zero =>
    intro i fuel T M hd hi12 hf hT hS hN
    obtain ⟨fuel, rfl⟩ : ∃ k, fuel = k + 1 := ⟨fuel - 1, by omega⟩
    have hn := hW.1.2
    have hlen := hT.len
    refine ⟨M, ?_, hS, hT, fr_rf⟩
    rw [fTree_growFrom_43, if_pos (by rw [hS.1]; exact nI_le (by omega) (by omega))]
  | succ d ih =>
    intro i fuel T M hd hi12 hf hT hS hN
    obtain ⟨fuel, rfl⟩ : ∃ k, fuel = k + 1 := ⟨fuel - 1, by omega⟩
    have hn := hW.1.2
    have hlen := hT.len
    rw [tOut]
    by_cases hi : i < (tO T).length
    · rw [if_pos hi]
      have hp := getD_of hi
      have hpm : (tO T).getD i 0 ∈ tO T := List.mem_of_getElem? hp
      obtain ⟨M1, h1, h2, h3⟩ := growIn_X hW (p := (tO T).getD i 0) (r := r) (k := fTree_growFrom_43 fuel) (i := i) n 0 FU T M (by omega) (by omega) (by unfold FU; omega) hT hS hN hpm
      have hT2 := tIn_W hW (p := (tO T).getD i 0) (r := r) (List.range' 0 n) T (fun x hx => range'_lt hx (by omega)) hT
      obtain ⟨M2, g1, g2, g3, g4⟩ := ih (i + 1) fuel _ M1 (by omega) (by omega) (by omega) hT2 h2 (frT hN h3 rfl rfl rfl rfl rfl rfl (fun kk => ⟨rfl, rfl, rfl⟩))
      refine ⟨M2, ?_, g2, g3, fr_tr h3 g4⟩
      rw [fTree_growFrom_43, if_neg (by rw [hS.1]; exact nI_ge hi (by omega)), if_neg (by rw [hN.1]; exact nI_ge (by omega) (by omega)), rd_ok (by omega) (by decide), hS.2.2.2.2.1 i _ hp]
      rw [nI_0] at h1
      rw [h1]
      exact g1
    · rw [if_neg hi]
      refine ⟨M, ?_, hS, hT, fr_rf⟩
      rw [fTree_growFrom_43, if_pos (by rw [hS.1]; exact nI_le (by omega) (by omega))]
theorem own_new {T : tT} {r : Nat} (hno : ¬ r ∈ tO T) (j : Nat) : decide (∃ x ∈ tO (tNew r T), tL (tNew r T) x = some j) = decide (∃ x ∈ tO T, tL T x = some j) := by
  rw [Bool.eq_iff_iff]
  simp only [decide_eq_true_eq]
  constructor
  · rintro ⟨x, hx, hl⟩
    have hl : fup (tL T) r none x = some j := hl
    by_cases hxq : x = r
    · rw [hxq, fup_eq] at hl
      cases hl
    · rw [fup_ne hxq] at hl
      rcases mem_app1.mp hx with h1 | h1
      · exact ⟨x, h1, hl⟩
      · exact absurd h1 hxq
  · rintro ⟨x, hx, hl⟩
    refine ⟨x, mem_app1.mpr (Or.inl hx), ?_⟩
    show fup (tL T) r none x = some j
    rw [fup_ne (fun z : x = r => hno (z ▸ hx))]
    exact hl
/-- a root, in the class -/
theorem growFrom_X {n : Nat} {E : List (Nat × Nat)} (hW : gW n E) {r : Nat} {T : tT} {M : zM} (hT : tW n T) (hS : SX M n T) (hN : NetX M n E) (hr : r < n) (hno : ¬ r ∈ tO T) :
    ∃ M2, fTree_growFrom (nI r) M = some ((), M2) ∧ SX M2 n (tOut E n r (12 - (tO T).length) (tO T).length (tNew r T)) ∧ tW n (tOut E n r (12 - (tO T).length) (tO T).length (tNew r T)) ∧ fr [6, 7, 8, 12] [(5, 1), (5, 2), (5, 10), (5, 11)] M M2 := by
  have hn := hW.1.2
  have hT1 := tW_new hT hr hno
  have hlen1 : (tO T).length < 12 := by
    have := hT1.len
    rw [show (tO (tNew r T)) = tO T ++ [r] from rfl, List.length_append] at this
    simp at this
    omega
  obtain ⟨w11, hw11⟩ : ∃ w2 : Nat, w2 = mkM (fun q => decide (q ∈ tO T)) 12 ||| 2 ^ r := ⟨_, rfl⟩
  obtain ⟨M1, hM1⟩ : ∃ M2 : zM, M2 = zs (zs (zs (zs (zs (zs (zs M 5 1 (nI (tN T + 1))) 6 r (-1)) 7 r (nI r)) 8 r 0) 5 11 (nI w11)) 12 (tO T).length (nI r)) 5 10 (nI ((tO T).length + 1)) := ⟨_, rfl⟩
  have a5 : ∀ kk, M1 5 kk = if kk = 10 then nI ((tO T).length + 1) else if kk = 11 then nI w11 else if kk = 1 then nI (tN T + 1) else M 5 kk := by intro kk; rw [hM1]; simp [zs_at]
  have a6 : ∀ kk, M1 6 kk = if kk = r then -1 else M 6 kk := by intro kk; rw [hM1]; simp [zs_at]
  have a7 : ∀ kk, M1 7 kk = if kk = r then nI r else M 7 kk := by intro kk; rw [hM1]; simp [zs_at]
  have a8 : ∀ kk, M1 8 kk = if kk = r then 0 else M 8 kk := by intro kk; rw [hM1]; simp [zs_at]
  have a12 : ∀ kk, M1 12 kk = if kk = (tO T).length then nI r else M 12 kk := by intro kk; rw [hM1]; simp [zs_at]
  have hfr : fr [6, 7, 8, 12] [(5, 1), (5, 2), (5, 10), (5, 11)] M M1 := by rw [hM1]; exact fr_zp (fr_zs (fr_zp (fr_zs (fr_zs (fr_zs (fr_zp fr_rf rfl) rfl) rfl) rfl) rfl) rfl) rfl
  have hstep : fTree_growFrom (nI r) M = fTree_growFrom_43 FU (nI r) (nI (tO T).length) M1 := by
    unfold fTree_growFrom fTree_place
    simp only [lt_eq, wf_eq, wr_ok (show r < 12 by omega) (show 12 < 2 ^ 31 by decide), zshl_pow (show r < 31 by omega), hS.2.2.1, nI_1, fa_or,
      zs_nc (show ¬ 5 = 6 by decide), zs_nc (show ¬ 5 = 7 by decide), zs_nc (show ¬ 5 = 8 by decide), zs_nc (show ¬ 5 = 12 by decide), zs_nk (show ¬ 11 = 1 by decide), zs_nk (show ¬ 10 = 1 by decide), zs_nk (show ¬ 10 = 11 by decide), hS.2.1, hS.1,
      wr_ok hlen1 (show 12 < 2 ^ 31 by decide), cl_some]
    rw [← hw11, ← hM1]
  clear hM1
  have hS1 : SX M1 n (tNew r T) := by
    refine ⟨?_, ?_, ?_, ?_, fun ii qq hii => ?_, fun qq hqq => ?_⟩
    · rw [a5, if_pos rfl]
      show _ = nI (tO T ++ [r]).length
      rw [List.length_append]
      rfl
    · rw [a5, if_neg (by decide), if_pos rfl, hw11]
      refine congrArg nI (mkM_of (or_lt (mkM_lt _ _) (pow_ltk (by omega))) (fun j hj => ?_))
      rw [Nat.testBit_or, mkM_bit, testBit_pow]
      simp only [hj, decide_true, Bool.true_and]
      rw [Bool.eq_iff_iff]
      simp only [Bool.or_eq_true, decide_eq_true_eq]
      show _ ↔ j ∈ tO T ++ [r]
      rw [mem_app1]
      constructor
      · rintro (h1 | h1)
        · exact Or.inl h1
        · exact Or.inr h1.symm
      · rintro (h1 | h1)
        · exact Or.inl h1
        · exact Or.inr h1.symm
    · rw [a5, if_neg (by decide), if_neg (by decide), if_pos rfl]
      rfl
    · rw [a5, if_neg (by decide), if_neg (by decide), if_neg (by decide), hS.2.2.2.1]
      exact congrArg nI (mkM_cong (fun j _ => (own_new hno j).symm))
    · have hii : (tO T ++ [r])[ii]? = some qq := hii
      rw [a12]
      by_cases hi : ii < (tO T).length
      · rw [List.getElem?_append_left hi] at hii
        rw [if_neg (by omega)]
        exact hS.2.2.2.2.1 ii qq hii
      · rw [List.getElem?_append_right (by omega)] at hii
        have hlt := (List.getElem?_eq_some_iff.mp hii).1
        simp at hlt
        have hiie : ii = (tO T).length := by omega
        subst hiie
        simp at hii
        subst hii
        rw [if_pos rfl]
    · rw [a6, a7, a8]
      show _ = oI (fup (tP T) r none qq) ∧ _ = nI (fup (tR T) r r qq) ∧ _ = nI (fup (tA T) r 0 qq)
      by_cases hqe : qq = r
      · subst hqe
        rw [if_pos rfl, if_pos rfl, if_pos rfl, fup_eq, fup_eq, fup_eq]
        exact ⟨rfl, rfl, rfl⟩
      · rw [if_neg hqe, if_neg hqe, if_neg hqe, fup_ne hqe, fup_ne hqe, fup_ne hqe]
        rcases mem_app1.mp hqq with h1 | h1
        · exact hS.2.2.2.2.2 qq h1
        · exact absurd h1 hqe
  obtain ⟨M2, g1, g2, g3, g4⟩ := growOut_X hW (r := r) (12 - (tO T).length) (tO T).length FU (tNew r T) M1 rfl (by omega) (by unfold FU; omega) hT1 hS1 (frT hN hfr rfl rfl rfl rfl rfl rfl (fun kk => ⟨rfl, rfl, rfl⟩))
  refine ⟨M2, hstep.trans g1, g2, g3, fr_tr hfr (fr_mono g4 (fun _ h => h) (fun q h1 h2 => ?_))⟩
  simp only [List.contains_cons, List.contains_nil, Bool.or_false, Bool.or_eq_false_iff] at h2 ⊢
  exact h2.2
theorem growAll_X {n : Nat} {E : List (Nat × Nat)} (hW : gW n E) : ∀ (d v fuel : Nat) (T : tT) (M : zM), n - v = d → v ≤ n → d < fuel → tW n T → SX M n T → NetX M n E →
    ∃ M2, fTree_fresh_31 fuel (nI v) M = (cl (fTree_numberPosts M2) fun _ M1 => cl (fTree_nameLines M1) fun _ M3 => some (5, M3)) ∧ SX M2 n (tAll E n (List.range' v d) T) ∧ tW n (tAll E n (List.range' v d) T) ∧ fr [6, 7, 8, 12] [(5, 1), (5, 2), (5, 10), (5, 11)] M M2 := by
  intro d
  induction d with
  | zero =>
    intro v fuel T M hd hv hf hT hS hN
    obtain ⟨fuel, rfl⟩ : ∃ k, fuel = k + 1 := ⟨fuel - 1, by omega⟩
    have hn := hW.1.2
    refine ⟨M, ?_, hS, hT, fr_rf⟩
    rw [fTree_fresh_31, if_pos (by rw [hN.1]; exact nI_le (by omega) (by omega))]
  | succ d ih =>
    intro v fuel T M hd hv hf hT hS hN
    obtain ⟨fuel, rfl⟩ : ∃ k, fuel = k + 1 := ⟨fuel - 1, by omega⟩
    have hn := hW.1.2
    rw [range'_cons, tAll]
    have hb : zshr (M 5 11) (nI v) &&& 1 = bI (decide (v ∈ tO T)) := by
      rw [hS.2.1, zbit (Nat.lt_trans (mkM_lt _ _) (by decide)) (by omega), mkM_bit]
      simp only [show v < 12 by omega, decide_true, Bool.true_and]
    by_cases hin : v ∈ tO T
    · rw [if_pos hin]
      obtain ⟨M2, g1, g2, g3, g4⟩ := ih (v + 1) fuel T M (by omega) (by omega) (by omega) hT hS hN
      refine ⟨M2, ?_, g2, g3, g4⟩
      rw [fTree_fresh_31, if_neg (by rw [hN.1]; exact nI_ge (show v < n by omega) (by omega)), hb]
      simp only [hin, decide_true]
      rw [if_pos (by decide), nI_1]
      exact g1
    · rw [if_neg hin]
      obtain ⟨M1, h1, h2, h3, h4⟩ := growFrom_X hW hT hS hN (show v < n by omega) hin
      obtain ⟨M2, g1, g2, g3, g4⟩ := ih (v + 1) fuel _ M1 (by omega) (by omega) (by omega) h3 h2 (frT hN h4 rfl rfl rfl rfl rfl rfl (fun kk => ⟨rfl, rfl, rfl⟩))
      refine ⟨M2, ?_, g2, g3, fr_tr h4 g4⟩
      rw [fTree_fresh_31, if_neg (by rw [hN.1]; exact nI_ge (show v < n by omega) (by omega)), hb]
      simp only [hin, decide_false]
      rw [if_neg (by decide), h1, cl_some, nI_1]
      exact g1
