/-! PURE: the whole tree on both sides -/
theorem tOut_W {n : Nat} {E : List (Nat × Nat)} (hW : gW n E) {r : Nat} : ∀ (d i : Nat) (T : tT), tW n T → tW n (tOut E n r d i T)
  | 0, _, _, h => h
  | d + 1, i, T, h => by
    rw [tOut]
    split
    · exact tOut_W hW d (i + 1) _ (tIn_W hW _ T (fun x hx => range'_lt hx (by omega)) h)
    · exact h
theorem tAll_W {n : Nat} {E : List (Nat × Nat)} (hW : gW n E) : ∀ (rs : List Nat) (T : tT), (∀ r ∈ rs, r < n) → tW n T → tW n (tAll E n rs T)
  | [], _, _, h => h
  | r :: rs, T, hr, h => by
    rw [tAll]
    apply tAll_W hW rs _ (fun x hx => hr x (List.mem_cons_of_mem _ hx))
    split
    · exact h
    · rename_i hno
      exact tOut_W hW _ _ _ (tW_new h (hr r List.mem_cons_self) hno)
theorem gTree_W {n : Nat} {E : List (Nat × Nat)} (hW : gW n E) : tW n (gTree n E) := tAll_W hW _ _ (fun r hr => range'_lt hr (by omega)) (tW_zero n)
theorem findAll_Y {n : Nat} {E : List (Nat × Nat)} (hW : gW n E) : ∀ (d v fuel : Nat) (T : tT) (M : zM), n - v = d → v ≤ n → d < fuel → tW n T → SY M n T → NetY M n E →
    ∃ M2, fMd_findTree_35 fuel (nI v) M = some ((), M2) ∧ SY M2 n (tAll E n (List.range' v d) T) ∧ fr [3, 4, 5, 6, 7] [(0, 9), (0, 10)] M M2 := by
  intro d
  induction d with
  | zero =>
    intro v fuel T M hd hv hf hT hS hN
    obtain ⟨fuel, rfl⟩ : ∃ k, fuel = k + 1 := ⟨fuel - 1, by omega⟩
    have hn := hW.1.2
    refine ⟨M, ?_, hS, fr_rf⟩
    rw [fMd_findTree_35, if_pos (by rw [hN.1]; exact nI_le (by omega) (by omega))]
  | succ d ih =>
    intro v fuel T M hd hv hf hT hS hN
    obtain ⟨fuel, rfl⟩ : ∃ k, fuel = k + 1 := ⟨fuel - 1, by omega⟩
    have hn := hW.1.2
    rw [range'_cons, tAll]
    by_cases hin : v ∈ tO T
    · rw [if_pos hin]
      obtain ⟨M2, g1, g2, g4⟩ := ih (v + 1) fuel T M (by omega) (by omega) (by omega) hT hS hN
      refine ⟨M2, ?_, g2, g4⟩
      have hrq : tR T v < n := (hS.2.1 v hin).2.2.2
      rw [fMd_findTree_35, if_neg (by rw [hN.1]; exact nI_ge (show v < n by omega) (by omega)), rd_ok (show v < 12 by omega) (by decide), hS.1 v (by omega), if_pos hin, if_pos (nI_ge0 (by omega)), nI_1]
      exact g1
    · rw [if_neg hin]
      obtain ⟨M1, h1, h2, h4⟩ := grow_Y hW hT hS hN (show v < n by omega) hin
      obtain ⟨M2, g1, g2, g4⟩ := ih (v + 1) fuel _ M1 (by omega) (by omega) (by omega) (tOut_W hW _ _ _ (tW_new hT (show v < n by omega) hin)) h2 (frY hN h4 rfl rfl rfl rfl rfl (fun kk => ⟨rfl, rfl⟩))
      refine ⟨M2, ?_, g2, fr_tr h4 g4⟩
      rw [fMd_findTree_35, if_neg (by rw [hN.1]; exact nI_ge (show v < n by omega) (by omega)), rd_ok (show v < 12 by omega) (by decide), hS.1 v (by omega), if_neg hin, if_neg (by decide), h1, cl_some, nI_1]
      exact g1
theorem findTree_loop {n : Nat} {E : List (Nat × Nat)} (hW : gW n E) : ∀ (d v fuel : Nat) (M : zM), n - v = d → v ≤ n → d < fuel → NetY M n E → (∀ q, q < v → M 4 q = -1) →
    ∃ M2, fMd_findTree_2 fuel (nI v) M = some ((), M2) ∧ SY M2 n (gTree n E) ∧ fr [3, 4, 5, 6, 7] [(0, 9), (0, 10)] M M2 := by
  intro d
  induction d with
  | zero =>
    intro v fuel M hd hv hf hN hz
    obtain ⟨fuel, rfl⟩ : ∃ k, fuel = k + 1 := ⟨fuel - 1, by omega⟩
    have hn := hW.1.2
    have hfr : fr [3, 4, 5, 6, 7] [(0, 9), (0, 10)] M (zs (zs M 0 9 0) 0 10 0) := fr_zp (fr_zp fr_rf rfl) rfl
    have hS : SY (zs (zs M 0 9 0) 0 10 0) n tZero := by
      refine ⟨fun qq hqq => ?_, fun qq hqq => (by cases hqq), ?_, ?_⟩
      · rw [zs_nc (by decide), zs_nc (by decide), hz qq (by omega)]
        rfl
      · rw [zs_nk (by decide), zs_eq]
        rfl
      · rw [zs_eq]
        rfl
    obtain ⟨M2, h1, h2, h3⟩ := findAll_Y hW n 0 FU tZero _ (by omega) (by omega) (by unfold FU; omega) (tW_zero n) hS (frY hN hfr rfl rfl rfl rfl rfl (fun kk => ⟨rfl, rfl⟩))
    refine ⟨M2, ?_, h2, fr_tr hfr h3⟩
    rw [fMd_findTree_2, if_pos (by rw [hN.1]; exact nI_le (by omega) (by omega))]
    simp only [wf_eq]
    rw [nI_0] at h1
    exact h1
  | succ d ih =>
    intro v fuel M hd hv hf hN hz
    obtain ⟨fuel, rfl⟩ : ∃ k, fuel = k + 1 := ⟨fuel - 1, by omega⟩
    have hn := hW.1.2
    have hfr : fr [3, 4, 5, 6, 7] [(0, 9), (0, 10)] M (zs M 4 v (-1)) := fr_zs fr_rf rfl
    obtain ⟨M2, h1, h2, h3⟩ := ih (v + 1) fuel (zs M 4 v (-1)) (by omega) (by omega) (by omega) (frY hN hfr rfl rfl rfl rfl rfl (fun kk => ⟨rfl, rfl⟩)) (fun qq hqq => by
      by_cases hqv : qq = v
      · rw [hqv, zs_eq]
      · rw [zs_nk hqv]
        exact hz qq (by omega))
    refine ⟨M2, ?_, h2, fr_tr hfr h3⟩
    rw [fMd_findTree_2, if_neg (by rw [hN.1]; exact nI_ge (show v < n by omega) (by omega)), wr_ok (show v < 12 by omega) (by decide), nI_1]
    exact h1
theorem findTree_Y {n : Nat} {E : List (Nat × Nat)} (hW : gW n E) {M : zM} (hN : NetY M n E) : ∃ M2, fMd_findTree M = some ((), M2) ∧ SY M2 n (gTree n E) ∧ fr [3, 4, 5, 6, 7] [(0, 9), (0, 10)] M M2 := by
  have hn := hW.1.2
  have h := findTree_loop hW n 0 FU M (by omega) (by omega) (by unfold FU; omega) hN (fun q hq => (by omega))
  rw [nI_0] at h
  exact h
/-! what the tree is -/
theorem tIn_all {E : List (Nat × Nat)} {p r x : Nat} : ∀ (qs : List Nat) (T : tT), x ∈ qs → gA E p x = true → x ∈ tO (tIn E p r qs T)
  | q :: qs, T, hx, hg => by
    rw [tIn]
    rcases List.mem_cons.mp hx with rfl | hx
    · apply tIn_mem
      split
      · exact mem_app1.mpr (Or.inr rfl)
      · rename_i hc
        exact Classical.byContradiction fun z => hc ⟨hg, z⟩
    · exact tIn_all qs _ hx hg
  | [], T, hx, _ => by cases hx
theorem tOut_mem {E : List (Nat × Nat)} {n r x : Nat} : ∀ (d i : Nat) (T : tT), x ∈ tO T → x ∈ tO (tOut E n r d i T)
  | 0, _, _, h => h
  | d + 1, i, T, h => by
    rw [tOut]
    split
    · exact tOut_mem d (i + 1) _ (tIn_mem _ _ h)
    · exact h
theorem tAll_mem {E : List (Nat × Nat)} {n x : Nat} : ∀ (rs : List Nat) (T : tT), (x ∈ tO T ∨ x ∈ rs) → x ∈ tO (tAll E n rs T)
  | [], _, h => h.elim id (fun z => by cases z)
  | r :: rs, T, h => by
    rw [tAll]
    apply tAll_mem rs
    rcases h with h | h
    · left
      split
      · exact h
      · exact tOut_mem _ _ _ (mem_app1.mpr (Or.inl h))
    · rcases List.mem_cons.mp h with rfl | h
      · left
        split
        · assumption
        · exact tOut_mem _ _ _ (mem_app1.mpr (Or.inr rfl))
      · exact Or.inr h
/-- every post is in it -/
theorem gTree_mem {n : Nat} {E : List (Nat × Nat)} {x : Nat} (h : x < n) : x ∈ tO (gTree n E) := tAll_mem _ _ (Or.inr (List.mem_range'_1.mpr (by omega)))
theorem gTree_len {n : Nat} {E : List (Nat × Nat)} (hW : gW n E) : (tO (gTree n E)).length = n := by
  refine Nat.le_antisymm (gTree_W hW).len ?_
  have h1 : (List.range n).length ≤ (tO (gTree n E)).length := by
    apply List.Nodup.length_le_of_subset List.nodup_range
    intro x hx
    exact gTree_mem (List.mem_range.mp hx)
  simpa using h1
