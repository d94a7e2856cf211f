/-! PURE: the net changes -/
theorem fill_loop {c N : Nat} (hN : N < 2 ^ 31) (x : Int32) : ∀ (d i fuel : Nat) (M : zM), N - i = d → i ≤ N → d < fuel → ∃ M2, fJ7_fill_5 fuel c N x (nI i) (nI N) M = some ((), M2) ∧ (∀ k, i ≤ k → k < N → M2 c k = x) ∧ (∀ c2 k, ¬ (c2 = c ∧ i ≤ k ∧ k < N) → M2 c2 k = M c2 k) := by
  intro d
  induction d with
  | zero =>
    intro i fuel M hd hi hf
    obtain ⟨fuel, rfl⟩ : ∃ k, fuel = k + 1 := ⟨fuel - 1, by omega⟩
    refine ⟨M, ?_, fun k h1 h2 => by omega, fun _ _ _ => rfl⟩
    rw [fJ7_fill_5, if_pos (nI_le (by omega) (by omega))]
  | succ d ih =>
    intro i fuel M hd hi hf
    obtain ⟨fuel, rfl⟩ : ∃ k, fuel = k + 1 := ⟨fuel - 1, by omega⟩
    obtain ⟨M2, h1, h2, h3⟩ := ih (i + 1) fuel (zs M c i x) (by omega) (by omega) (by omega)
    refine ⟨M2, ?_, fun k hk1 hk2 => ?_, fun c2 k hk => ?_⟩
    · rw [fJ7_fill_5, if_neg (nI_ge (by omega) (by omega)), wr_ok (by omega) hN, nI_1]
      exact h1
    · by_cases hki : k = i
      · subst hki
        rw [h3 c k (by omega), zs_eq]
      · exact h2 k (by omega) hk2
    · rw [h3 c2 k (fun q => hk ⟨q.1, by omega, q.2.2⟩), zs_ne (fun q => hk ⟨q.1, by omega, by omega⟩)]
theorem fill_ok {c N : Nat} (hN : N < 4000) (x : Int32) (M : zM) : ∃ M2, fJ7_fill c N x M = some ((), M2) ∧ (∀ k, k < N → M2 c k = x) ∧ (∀ c2 k, ¬ (c2 = c ∧ k < N) → M2 c2 k = M c2 k) := by
  obtain ⟨M2, h1, h2, h3⟩ := fill_loop (c := c) (N := N) (by omega) x N 0 FU M (by omega) (by omega) (by unfold FU; omega)
  refine ⟨M2, ?_, fun k hk => h2 k (by omega) hk, fun c2 k hk => h3 c2 k (fun q => hk ⟨q.1, q.2.2⟩)⟩
  unfold fJ7_fill
  rw [lt_eq]
  rw [nI_0] at h1
  exact h1
theorem mkM_zero {f : Nat → Bool} {k : Nat} (h : ∀ j, j < k → f j = false) : mkM f k = 0 := by
  apply Nat.eq_of_testBit_eq
  intro j
  rw [mkM_bit]
  by_cases hj : j < k
  · simp [hj, h j hj]
  · simp [hj]
theorem gW_nil {n : Nat} (h : 1 ≤ n ∧ n ≤ 12) : gW n [] := ⟨h, by decide, fun e he => (by cases he), List.Pairwise.nil⟩
theorem begin_ok {M : zM} {k : Nat} (hk : k ≤ 12) : ∃ M2, fNet_begin (nI k) M = some ((), M2) ∧ NetX M2 k [] ∧ M2 1 2 = M 1 2 + 1 ∧ fr [2, 3, 4] [(1, 0), (1, 1), (1, 2)] M M2 := by
  obtain ⟨M2, h1, h2, h3⟩ := fill_ok (c := 4) (N := 12) (by decide) 0 (zs (zs M 1 0 (nI k)) 1 1 0)
  refine ⟨zs M2 1 2 (M2 1 2 + 1), ?_, ⟨?_, ?_, fun i e he => (by cases he), fun pp hpp => ?_⟩, ?_, fun c q hc hp => ?_⟩
  · unfold fNet_begin
    simp only [wf_eq, h1, cl_some]
  · rw [zs_ne (by omega), h3 1 0 (by omega), zs_ne (by omega), zs_eq]
  · rw [zs_ne (by omega), h3 1 1 (by omega), zs_eq]
    rfl
  · rw [zs_nc (by omega), h2 pp hpp, mkM_zero (f := gA [] pp) (fun _ _ => rfl)]
    rfl
  · rw [zs_eq, h3 1 2 (by omega), zs_ne (by omega), zs_ne (by omega)]
  · simp only [List.contains_cons, List.contains_nil, Bool.or_false, Bool.or_eq_false_iff, beq_eq_false_iff_ne, ne_eq, Prod.mk.injEq] at hc hp
    rw [zs_ne hp.2.2, h3 c q (fun z => hc.2.2 z.1), zs_ne hp.2.1, zs_ne hp.1]
theorem addPost_ok {M : zM} {n : Nat} {E : List (Nat × Nat)} (hN : NetX M n E) (hW : gW n E) : ∃ M2, fNet_addPost M = some (nI n, M2) ∧ NetX M2 (n + 1) E ∧ M2 1 2 = M 1 2 + 1 ∧ fr [] [(1, 0), (1, 2)] M M2 := by
  refine ⟨zs (zs M 1 2 (M 1 2 + 1)) 1 0 (nI (n + 1)), ?_, ⟨zs_eq, ?_, fun ii ee he => ?_, fun pp hpp => ?_⟩, ?_, ?_⟩
  · unfold fNet_addPost
    simp only [wf_eq, zs_eq, zs_ne (show ¬ (1 = 1 ∧ 0 = 2) by decide), hN.1, nI_1, nI_pred]
  · rw [zs_ne (by omega), zs_ne (by omega)]; exact hN.2.1
  · rw [zs_nc (by omega), zs_nc (by omega), zs_nc (by omega), zs_nc (by omega)]; exact hN.2.2.1 ii ee he
  · rw [zs_nc (by omega), zs_nc (by omega)]; exact hN.2.2.2 pp hpp
  · rw [zs_ne (by omega), zs_eq]
  · exact fr_zp (fr_zp fr_rf rfl) rfl
theorem gA_app (E : List (Nat × Nat)) (e : Nat × Nat) (a b : Nat) : gA (E ++ [e]) a b = (gA E a b || gS a b e) := by
  unfold gA
  simp
theorem addLine_ok {M : zM} {n : Nat} {E : List (Nat × Nat)} (hN : NetX M n E) (hW : gW n E) {a b : Nat} (ha : a < n) (hb : b < n) (hab : a ≠ b) (hl : E.length < 30) : ∃ M2, fNet_addLine (nI a) (nI b) M = some (nI E.length, M2) ∧ NetX M2 n (E ++ [(a, b)]) ∧ M2 1 2 = M 1 2 + 1 ∧ fr [2, 3, 4] [(1, 1), (1, 2)] M M2 := by
  have hn := hW.1.2
  refine ⟨zs (zs (zs (zs (zs (zs M 2 E.length (nI a)) 3 E.length (nI b)) 4 a (nI (mkM (gA E a) 12 ||| 2 ^ b))) 4 b (nI (mkM (gA E b) 12 ||| 2 ^ a))) 1 2 (M 1 2 + 1)) 1 1 (nI (E.length + 1)), ?_, ?_, ?_, ?_⟩
  · unfold fNet_addLine
    simp only [wf_eq, hN.2.1, wr_ok hl (show 30 < 2 ^ 31 by decide), zs_nc (show ¬ 1 = 2 by decide), zs_nc (show ¬ 1 = 3 by decide), zs_nc (show ¬ 1 = 4 by decide), zs_nc (show ¬ 4 = 2 by decide), zs_nc (show ¬ 4 = 3 by decide),
      rd_ok (show a < 12 by omega) (show 12 < 2 ^ 31 by decide), wr_ok (show a < 12 by omega) (show 12 < 2 ^ 31 by decide), rd_ok (show b < 12 by omega) (show 12 < 2 ^ 31 by decide), wr_ok (show b < 12 by omega) (show 12 < 2 ^ 31 by decide),
      hN.2.2.2 a (by omega), zs_nk (show ¬ b = a from fun q => hab q.symm), hN.2.2.2 b (by omega), zshl_pow (show a < 31 by omega), zshl_pow (show b < 31 by omega), fa_or, zs_eq, zs_ne (show ¬ (1 = 1 ∧ 1 = 2) by decide), nI_1, nI_pred]
  · refine ⟨?_, ?_, fun i e he => ?_, fun p hp => ?_⟩
    · rw [zs_ne (by omega), zs_ne (by omega), zs_nc (by omega), zs_nc (by omega), zs_nc (by omega), zs_nc (by omega)]; exact hN.1
    · rw [zs_eq, List.length_append]; rfl
    · simp only [zs_nc (show ¬ 2 = 1 by decide), zs_nc (show ¬ 2 = 4 by decide), zs_nc (show ¬ 2 = 3 by decide), zs_nc (show ¬ 3 = 1 by decide), zs_nc (show ¬ 3 = 4 by decide)]
      by_cases hi : i < E.length
      · rw [List.getElem?_append_left hi] at he
        rw [zs_nk (by omega), zs_nk (by omega), zs_nc (by omega)]
        exact hN.2.2.1 i e he
      · rw [List.getElem?_append_right (by omega)] at he
        have hi0 : i - E.length = 0 := by
          have := (List.getElem?_eq_some_iff.mp he).1
          simp at this
          omega
        rw [hi0] at he
        cases Option.some.inj he
        have : i = E.length := by omega
        subst this
        rw [zs_eq, zs_eq]
        exact ⟨rfl, rfl⟩
    · rw [zs_nc (by omega), zs_nc (by omega)]
      have key : ∀ m, m < 2 ^ 12 → (∀ j, j < 12 → m.testBit j = gA (E ++ [(a, b)]) p j) → nI m = nI (mkM (gA (E ++ [(a, b)]) p) 12) := fun m h1 h2 => by rw [mkM_of h1 h2]
      by_cases hpb : p = b
      · subst hpb
        rw [zs_eq]
        apply key _ (or_lt (mkM_lt _ _) (pow_ltk (by omega)))
        intro j hj
        rw [Nat.testBit_or, mkM_bit, testBit_pow, gA_app]
        simp only [hj, decide_true, Bool.true_and, gS]
        have h1 : ¬ a = p := hab
        simp [h1]
      · rw [zs_nk hpb]
        by_cases hpa : p = a
        · subst hpa
          rw [zs_eq]
          apply key _ (or_lt (mkM_lt _ _) (pow_ltk (by omega)))
          intro j hj
          rw [Nat.testBit_or, mkM_bit, testBit_pow, gA_app]
          simp only [hj, decide_true, Bool.true_and, gS]
          have h1 : ¬ b = p := fun q => hab q.symm
          simp [h1]
        · rw [zs_nk hpa, zs_nc (by omega), zs_nc (by omega), hN.2.2.2 p hp]
          congr 1
          apply mkM_cong
          intro j hj
          rw [gA_app]
          have h1 : ¬ a = p := fun q => hpa q.symm
          have h2 : ¬ b = p := fun q => hpb q.symm
          simp [gS, h1, h2]
  · rw [zs_ne (by omega), zs_eq]
  · exact fr_zp (fr_zp (fr_zs (fr_zs (fr_zs (fr_zs fr_rf rfl) rfl) rfl) rfl) rfl) rfl
theorem gW_add {n : Nat} {E : List (Nat × Nat)} (hW : gW n E) {a b : Nat} (ha : a < n) (hb : b < n) (hab : a ≠ b) (hno : gA E a b = false) (hl : E.length < 30) : gW n (E ++ [(a, b)]) := by
  refine ⟨hW.1, by rw [List.length_append]; simp; omega, fun e he => ?_, ?_⟩
  · rcases List.mem_append.mp he with h | h
    · exact hW.2.2.1 e h
    · simp only [List.mem_singleton] at h
      subst h
      exact ⟨ha, hb, hab⟩
  · rw [List.pairwise_append]
    refine ⟨hW.2.2.2, by simp, fun e he f hf => ?_⟩
    simp only [List.mem_singleton] at hf
    subst hf
    have h1 := List.any_eq_false.mp hno e he
    simp only [gS, Bool.or_eq_true, Bool.and_eq_true, decide_eq_true_eq, not_or] at h1
    rw [Bool.eq_false_iff]
    intro h2
    simp only [gS, Bool.or_eq_true, Bool.and_eq_true, decide_eq_true_eq] at h2
    rcases h2 with ⟨rfl, rfl⟩ | ⟨rfl, rfl⟩
    · exact h1.1 ⟨rfl, rfl⟩
    · exact h1.2 ⟨rfl, rfl⟩
