/-! PURE: a line is taken away; the reference's changes -/
theorem shift_loop {len : Nat} (hlen : 1 ≤ len) (hl : len ≤ 30) : ∀ (d i fuel : Nat) (M : zM), M 1 1 = nI len → len - 1 - i = d → i ≤ len - 1 → d < fuel → ∃ M2, fNet_removeLine_50 fuel (nI i) M = some ((), M2) ∧ M2 1 2 = M 1 2 + 1 ∧ M2 1 1 = nI (len - 1) ∧ (∀ k, i ≤ k → k < len - 1 → M2 2 k = M 2 (k + 1) ∧ M2 3 k = M 3 (k + 1)) ∧ (∀ c k, ¬ (c = 1 ∧ (k = 1 ∨ k = 2)) → ¬ ((c = 2 ∨ c = 3) ∧ i ≤ k ∧ k < len - 1) → M2 c k = M c k) := by
  obtain ⟨l1, rfl⟩ : ∃ l1, len = l1 + 1 := ⟨len - 1, by omega⟩
  rw [Nat.add_sub_cancel]
  intro d
  induction d with
  | zero =>
    intro i fuel M hM hd hi hf
    obtain ⟨fuel, rfl⟩ : ∃ k, fuel = k + 1 := ⟨fuel - 1, by omega⟩
    refine ⟨zs (zs M 1 2 (M 1 2 + 1)) 1 1 (nI l1), ?_, ?_, ?_, fun kk h1 h2 => (by omega), fun cc kk h1 h2 => ?_⟩
    · rw [fNet_removeLine_50, if_pos (by rw [hM, nI_pred]; exact nI_le (by omega) (by omega))]
      simp only [wf_eq]
      rw [zs_ne (show ¬ (1 = 1 ∧ 1 = 2) by decide), hM, nI_pred]
    · rw [zs_ne (by omega), zs_eq]
    · rw [zs_eq]
    · rw [zs_ne (by omega), zs_ne (by omega)]
  | succ d ih =>
    intro i fuel M hM hd hi hf
    obtain ⟨fuel, rfl⟩ : ∃ k, fuel = k + 1 := ⟨fuel - 1, by omega⟩
    obtain ⟨M2, h1, h2, h3, h4, h5⟩ := ih (i + 1) fuel (zs (zs M 2 i (M 2 (i + 1))) 3 i (M 3 (i + 1))) (by rw [zs_nc (by omega), zs_nc (by omega)]; exact hM) (by omega) (by omega) (by omega)
    refine ⟨M2, ?_, ?_, h3, fun kk hk1 hk2 => ?_, fun cc kk hk1 hk2 => ?_⟩
    · rw [fNet_removeLine_50, if_neg (by rw [hM, nI_pred]; exact nI_ge (by omega) (by omega))]
      simp only [nI_1, rd_ok (show i + 1 < 30 by omega) (show 30 < 2 ^ 31 by decide), wr_ok (show i < 30 by omega) (show 30 < 2 ^ 31 by decide), zs_nc (show ¬ 3 = 2 by decide)]
      exact h1
    · rw [h2, zs_nc (by omega), zs_nc (by omega)]
    · by_cases hki : kk = i
      · subst hki
        rw [h5 2 kk (by omega) (by omega), h5 3 kk (by omega) (by omega), zs_nc (by omega), zs_eq, zs_eq]
        exact ⟨rfl, rfl⟩
      · have := h4 kk (by omega) hk2
        rw [this.1, this.2, zs_nc (by omega), zs_nk (by omega), zs_nk (by omega), zs_nc (by omega)]
        exact ⟨rfl, rfl⟩
    · rw [h5 cc kk hk1 (by omega)]
      rw [zs_ne (by omega), zs_ne (by omega)]
theorem gS_true {a b : Nat} {e : Nat × Nat} (h : gS a b e = true) : (e.1 = a ∧ e.2 = b) ∨ (e.1 = b ∧ e.2 = a) := by
  simpa only [gS, Bool.or_eq_true, Bool.and_eq_true, decide_eq_true_eq] using h
theorem gS_self (e : Nat × Nat) : gS e.1 e.2 e = true := by simp [gS]
theorem gS_sym {e f : Nat × Nat} : gS e.1 e.2 f = gS f.1 f.2 e := by
  unfold gS
  rw [Bool.eq_iff_iff]
  simp only [Bool.or_eq_true, Bool.and_eq_true, decide_eq_true_eq]
  omega
theorem gS_trans {a b : Nat} {e f : Nat × Nat} (h1 : gS a b e = true) (h2 : gS a b f = true) : gS e.1 e.2 f = true := by
  have h1 := gS_true h1
  have h2 := gS_true h2
  simp only [gS, Bool.or_eq_true, Bool.and_eq_true, decide_eq_true_eq]
  omega
theorem split_at {α : Type} {l : List α} {i : Nat} {e : α} (h : l[i]? = some e) : l = l.take i ++ e :: l.drop (i + 1) ∧ l.eraseIdx i = l.take i ++ l.drop (i + 1) := by
  constructor
  · rw [← drop_cons h, List.take_append_drop]
  · exact List.eraseIdx_eq_take_drop_succ l i
theorem gA_erase {n : Nat} {E : List (Nat × Nat)} (hW : gW n E) {l : Nat} {e : Nat × Nat} (he : E[l]? = some e) (p q : Nat) : gA (E.eraseIdx l) p q = (gA E p q && !gS p q e) := by
  obtain ⟨h1, h2⟩ := split_at he
  have hp := hW.2.2.2
  rw [h1] at hp
  rw [h2]
  conv => rhs; rw [h1]
  unfold gA
  simp only [List.any_append, List.any_cons]
  cases hs : gS p q e
  · simp
  · simp only [Bool.true_or, Bool.or_true, Bool.not_true, Bool.and_false]
    rw [List.pairwise_append, List.pairwise_cons] at hp
    rw [Bool.or_eq_false_iff]
    constructor
    · rw [List.any_eq_false]
      intro f hf hq
      have h3 := hp.2.2 f hf e List.mem_cons_self
      rw [gS_trans hq hs] at h3
      cases h3
    · rw [List.any_eq_false]
      intro f hf hq
      have h3 := hp.2.1.1 f hf
      rw [gS_trans hs hq] at h3
      cases h3
theorem gW_erase {n : Nat} {E : List (Nat × Nat)} (hW : gW n E) (l : Nat) : gW n (E.eraseIdx l) := by
  refine ⟨hW.1, Nat.le_trans (List.length_eraseIdx_le E l) hW.2.1, fun e he => hW.2.2.1 e (List.mem_of_mem_eraseIdx he), ?_⟩
  exact hW.2.2.2.sublist (List.eraseIdx_sublist E l)
theorem erase_get {α : Type} {l : List α} {i k : Nat} : (l.eraseIdx i)[k]? = if k < i then l[k]? else l[k + 1]? := List.getElem?_eraseIdx
theorem erase_len {α : Type} {l : List α} {i : Nat} (h : i < l.length) : (l.eraseIdx i).length = l.length - 1 := List.length_eraseIdx_of_lt h
theorem removeLine_ok {M : zM} {n : Nat} {E : List (Nat × Nat)} (hN : NetX M n E) (hW : gW n E) {l : Nat} (hl : l < E.length) : ∃ M2, fNet_removeLine (nI l) M = some ((), M2) ∧ NetX M2 n (E.eraseIdx l) ∧ M2 1 2 = M 1 2 + 1 ∧ fr [2, 3, 4] [(1, 1), (1, 2)] M M2 := by
  obtain ⟨e, he⟩ : ∃ e, E[l]? = some e := ⟨_, List.getElem?_eq_getElem hl⟩
  have hg := hW.get he
  have hm := hN.2.2.1 l e he
  have hn := hW.1.2
  have hl30 := hW.2.1
  have ha : e.1 < 12 := by omega
  have hb : e.2 < 12 := by omega
  have hne : ¬ e.2 = e.1 := fun q => hg.2.2.2 q.symm
  obtain ⟨Ma, hMa⟩ : ∃ Ma : zM, Ma = zs (zs M 4 e.1 (nI (mkM (gA E e.1) 12 &&& (2 ^ e.2 ^^^ (2 ^ 32 - 1))))) 4 e.2 (nI (mkM (gA E e.2) 12 &&& (2 ^ e.1 ^^^ (2 ^ 32 - 1)))) := ⟨_, rfl⟩
  obtain ⟨M2, h1, h2, h3, h4, h5⟩ := shift_loop (len := E.length) (by omega) hl30 (E.length - 1 - l) l FU Ma (by rw [hMa, zs_nc (by omega), zs_nc (by omega)]; exact hN.2.1) rfl (by omega) (by unfold FU; omega)
  have hMa2 : ∀ cc kk, ¬ cc = 4 → Ma cc kk = M cc kk := fun cc kk hc => by rw [hMa, zs_nc hc, zs_nc hc]
  refine ⟨M2, ?_, ⟨?_, ?_, fun i f hf => ?_, fun pp hpp => ?_⟩, ?_, fun cc kk hc hp => ?_⟩
  · unfold fNet_removeLine
    have r30 : ∀ {X : zM} {c : Nat} {K : Int32 → Option (Unit × zM)}, rd X c 30 (nI l) K = K (X c l) := rd_ok (by omega) (by decide)
    simp only [r30, hm.1, hm.2, zs_nc (show ¬ 2 = 4 by decide), zs_nc (show ¬ 3 = 4 by decide), rd_ok ha (show 12 < 2 ^ 31 by decide), rd_ok hb (show 12 < 2 ^ 31 by decide), wr_ok ha (show 12 < 2 ^ 31 by decide), wr_ok hb (show 12 < 2 ^ 31 by decide), zs_nk hne,
      hN.2.2.2 e.1 ha, hN.2.2.2 e.2 hb, zshl_pow (show e.1 < 31 by omega), zshl_pow (show e.2 < 31 by omega), nI_clr]
    rw [← hMa]
    exact h1
  · rw [h5 1 0 (by omega) (by omega), hMa2 1 0 (by omega)]
    exact hN.1
  · rw [h3, erase_len hl]
  · rw [erase_get] at hf
    by_cases hil : i < l
    · rw [if_pos hil] at hf
      rw [h5 2 i (by omega) (by omega), h5 3 i (by omega) (by omega), hMa2 2 i (by omega), hMa2 3 i (by omega)]
      exact hN.2.2.1 i f hf
    · rw [if_neg hil] at hf
      have hi1 := (List.getElem?_eq_some_iff.mp hf).1
      have := h4 i (by omega) (by omega)
      rw [this.1, this.2, hMa2 2 _ (by omega), hMa2 3 _ (by omega)]
      exact hN.2.2.1 (i + 1) f hf
  · rw [h5 4 pp (by omega) (by omega), hMa]
    have key : ∀ m, m < 2 ^ 12 → (∀ j, j < 12 → m.testBit j = gA (E.eraseIdx l) pp j) → nI m = nI (mkM (gA (E.eraseIdx l) pp) 12) := fun m q1 q2 => by rw [mkM_of q1 q2]
    have hlt : ∀ x, mkM (gA E x) 12 < 2 ^ 32 := fun x => Nat.lt_trans (mkM_lt _ _) (by decide)
    by_cases hpb : pp = e.2
    · rw [hpb, zs_eq, ← hpb]
      apply key _ (clr_lt (mkM_lt _ _))
      intro j hj
      rw [clr_bit (hlt pp), mkM_bit, gA_erase hW he]
      simp only [hj, decide_true, Bool.true_and]
      congr 2
      rw [Bool.eq_iff_iff]
      simp only [decide_eq_true_eq, gS, Bool.or_eq_true, Bool.and_eq_true]
      omega
    · rw [zs_nk hpb]
      by_cases hpa : pp = e.1
      · rw [hpa, zs_eq, ← hpa]
        apply key _ (clr_lt (mkM_lt _ _))
        intro j hj
        rw [clr_bit (hlt pp), mkM_bit, gA_erase hW he]
        simp only [hj, decide_true, Bool.true_and]
        congr 2
        rw [Bool.eq_iff_iff]
        simp only [decide_eq_true_eq, gS, Bool.or_eq_true, Bool.and_eq_true]
        omega
      · rw [zs_nk hpa, hN.2.2.2 pp hpp]
        congr 1
        apply mkM_cong
        intro j hj
        rw [gA_erase hW he]
        have : gS pp j e = false := by
          rw [Bool.eq_false_iff]
          intro q
          have := gS_true q
          omega
        simp [this]
  · rw [h2, hMa2 1 2 (by omega)]
  · simp only [List.contains_cons, List.contains_nil, Bool.or_false, Bool.or_eq_false_iff, beq_eq_false_iff_ne, ne_eq, Prod.mk.injEq] at hc hp
    rw [h5 cc kk (by omega) (by omega), hMa2 cc kk (by omega)]
/-! the reference's own -/
theorem shiftY_loop {len : Nat} (hl : len < 30) : ∀ (d i fuel : Nat) (M : zM), M 0 1 = nI len → len - i = d → i ≤ len → d < fuel → ∃ M2, fMd_strike_24 fuel (nI i) M = some (nI len, M2) ∧ (∀ k, i ≤ k → k < len → M2 1 k = M 1 (k + 1) ∧ M2 2 k = M 2 (k + 1)) ∧ (∀ c k, ¬ ((c = 1 ∨ c = 2) ∧ i ≤ k ∧ k < len) → M2 c k = M c k) := by
  intro d
  induction d with
  | zero =>
    intro i fuel M hM hd hi hf
    obtain ⟨fuel, rfl⟩ : ∃ k, fuel = k + 1 := ⟨fuel - 1, by omega⟩
    refine ⟨M, ?_, fun kk h1 h2 => (by omega), fun cc kk h2 => rfl⟩
    rw [fMd_strike_24, if_pos (by rw [hM]; exact nI_le (by omega) (by omega)), hM]
  | succ d ih =>
    intro i fuel M hM hd hi hf
    obtain ⟨fuel, rfl⟩ : ∃ k, fuel = k + 1 := ⟨fuel - 1, by omega⟩
    obtain ⟨M2, h1, h4, h5⟩ := ih (i + 1) fuel (zs (zs M 1 i (M 1 (i + 1))) 2 i (M 2 (i + 1))) (by rw [zs_nc (by omega), zs_nc (by omega)]; exact hM) (by omega) (by omega) (by omega)
    refine ⟨M2, ?_, fun kk hk1 hk2 => ?_, fun cc kk hk2 => ?_⟩
    · rw [fMd_strike_24, if_neg (by rw [hM]; exact nI_ge (by omega) (by omega))]
      simp only [nI_1, rd_ok (show i + 1 < 30 by omega) (show 30 < 2 ^ 31 by decide), wr_ok (show i < 30 by omega) (show 30 < 2 ^ 31 by decide), zs_nc (show ¬ 2 = 1 by decide)]
      exact h1
    · by_cases hki : kk = i
      · subst hki
        rw [h5 1 kk (by omega), h5 2 kk (by omega), zs_nc (by omega), zs_eq, zs_eq]
        exact ⟨rfl, rfl⟩
      · have := h4 kk (by omega) hk2
        rw [this.1, this.2, zs_nc (by omega), zs_nk (by omega), zs_nk (by omega), zs_nc (by omega)]
        exact ⟨rfl, rfl⟩
    · rw [h5 cc kk (by omega), zs_ne (by omega), zs_ne (by omega)]
