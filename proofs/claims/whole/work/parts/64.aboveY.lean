/-! PURE: the names of the first kind, in the reference -/
theorem nmA_len {n : Nat} {E : List (Nat × Nat)} {k q : Nat} : (nmA n E k q).length ≤ 2 := by
  unfold nmA
  by_cases h : q < k
  · rw [if_pos h]
    exact Nat.le_refl _
  · rw [if_neg h]
    exact Nat.zero_le _
theorem tail101 (f : Nat) (M : zM) : fMd_findNames_101 (f + 1) 0 0 M = some ((), M) := by
  rw [fMd_findNames_101]
  by_cases h : M 0 0 ≤ 0
  · rw [if_pos h]
  · rw [if_neg h, if_pos (by decide)]
theorem above_Y {n : Nat} {E : List (Nat × Nat)} (hW : gW n E) : ∀ (d k fuel : Nat) (M : zM), n - k = d → k ≤ n → d < fuel → M 0 0 = nI n → (∀ q, q < n → okN M n E q) → NmY M (nmA n E k) →
    ∃ M2, fMd_findNames_59 fuel 0 (nI k) M = some ((), M2) ∧ NmY M2 (nmA n E n) ∧ fr [12, 13] [] M M2 := by
  intro d
  have hn := hW.1.2
  induction d with
  | zero =>
    intro k fuel M hd hk hf h1 h9 hN
    obtain ⟨fuel, rfl⟩ : ∃ k, fuel = k + 1 := ⟨fuel - 1, by omega⟩
    have hkn : k = n := by omega
    refine ⟨M, ?_, hkn ▸ hN, fr_rf⟩
    rw [fMd_findNames_59, if_pos (by rw [h1]; exact nI_le (by omega) (by omega)), show FU = 4999 + 1 from rfl, tail101]
  | succ d ih =>
    intro k fuel M hd hk hf h1 h9 hN
    obtain ⟨fuel, rfl⟩ : ∃ k, fuel = k + 1 := ⟨fuel - 1, by omega⟩
    have hkn : k < n := by omega
    have hk12 : k < 12 := by omega
    have hk0 : nmA n E k k = [] := if_neg (by omega)
    obtain ⟨M1, a1, a2, a3⟩ := put_ok hN (fun q _ => Nat.le_trans nmA_len (by decide)) (a := gEnt n E k) hk12 (by rw [hk0]; decide)
    obtain ⟨M2, b1, b2, b3⟩ := put_ok a2 (fun q _ => by
      by_cases hqk : q = k
      · rw [hqk, fup_eq, hk0]
        show 1 ≤ 26
        decide
      · rw [fup_ne hqk]
        exact Nat.le_trans nmA_len (by decide)) (a := gLev n E k) hk12 (by rw [fup_eq, hk0]; show 1 < 26; decide)
    rw [nmA_step] at b2
    obtain ⟨M3, c1, c2, c3⟩ := ih (k + 1) fuel M2 (by omega) (by omega) (by omega) (by rw [b3 0 0 rfl rfl, a3 0 0 rfl rfl]; exact h1) (fun q hq => by
      unfold okN
      rw [b3 8 q rfl rfl, a3 8 q rfl rfl, b3 9 q rfl rfl, a3 9 q rfl rfl]
      exact h9 q hq) b2
    refine ⟨M3, ?_, c2, fr_tr a3 (fr_tr b3 c3)⟩
    rw [fMd_findNames_59, if_neg (by rw [h1]; exact nI_ge hkn (by omega)), if_neg (by decide), rd_ok hk12 (by decide), (h9 k hkn).1, a1, cl_some, rd_ok hk12 (by decide), a3 9 k rfl rfl, (h9 k hkn).2, b1, cl_some, nI_1]
    exact c1
