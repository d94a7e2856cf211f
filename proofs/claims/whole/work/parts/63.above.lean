/-! PURE: the names of the first kind, in the class -/
def nmA (n : Nat) (E : List (Nat × Nat)) (k : Nat) : Nat → List Nat := fun q => if q < k then [gEnt n E q, gLev n E q] else []
theorem nmA_step {n : Nat} {E : List (Nat × Nat)} {k : Nat} : fup (fup (nmA n E k) k (nmA n E k k ++ [gEnt n E k])) k (fup (nmA n E k) k (nmA n E k k ++ [gEnt n E k]) k ++ [gLev n E k]) = nmA n E (k + 1) := by
  funext x
  by_cases hx : x = k
  · rw [hx, fup_eq, fup_eq]
    simp [nmA]
  · rw [fup_ne hx, fup_ne hx]
    unfold nmA
    by_cases hlt : x < k
    · rw [if_pos hlt, if_pos (by omega)]
    · rw [if_neg hlt, if_neg (by omega)]
theorem above_X {n : Nat} {E : List (Nat × Nat)} (hW : gW n E) {c0 w : Nat} (hc : 14 ≤ c0) (hw2 : 2 ≤ w) (hw : w ≤ 26) (hz : zln (c0 + 2) = 12 * w) : ∀ (d k fuel : Nat) (M : zM), n - k = d → k ≤ n → d < fuel → M 1 0 = nI n → (∀ q, q < n → M 9 q = nI (gEnt n E q) ∧ M 10 q = nI (gLev n E q)) → NmX M c0 w (nmA n E k) →
    ∃ M2, fLabels_nameAbove_10 fuel c0 (nI k) M = some ((), M2) ∧ NmX M2 c0 w (nmA n E n) ∧ fr [c0 + 1, c0 + 2] [] M M2 := by
  intro d
  have hn := hW.1.2
  have hno : ∀ c, c < 14 → [c0 + 1, c0 + 2].contains c = false := fun c h => by
    simp
    omega
  induction d with
  | zero =>
    intro k fuel M hd hk hf h1 h9 hN
    obtain ⟨fuel, rfl⟩ : ∃ k, fuel = k + 1 := ⟨fuel - 1, by omega⟩
    have hkn : k = n := by omega
    refine ⟨M, ?_, hkn ▸ hN, fr_rf⟩
    rw [fLabels_nameAbove_10, if_pos (by rw [h1]; exact nI_le (by omega) (by omega))]
  | succ d ih =>
    intro k fuel M hd hk hf h1 h9 hN
    obtain ⟨fuel, rfl⟩ : ∃ k, fuel = k + 1 := ⟨fuel - 1, by omega⟩
    have hkn : k < n := by omega
    have hk12 : k < 12 := by omega
    have hk0 : nmA n E k k = [] := if_neg (by omega)
    obtain ⟨M1, a1, a2, a3⟩ := append_ok hN hw hz (a := gEnt n E k) hk12 (by rw [hk0]; show 0 < w; omega)
    obtain ⟨M2, b1, b2, b3⟩ := append_ok a2 hw hz (a := gLev n E k) hk12 (by rw [fup_eq, hk0]; show 1 < w; omega)
    rw [nmA_step] at b2
    obtain ⟨M3, c1, c2, c3⟩ := ih (k + 1) fuel M2 (by omega) (by omega) (by omega) (by rw [b3 1 0 (hno 1 (by omega)) rfl, a3 1 0 (hno 1 (by omega)) rfl]; exact h1) (fun q hq => by rw [b3 9 q (hno 9 (by omega)) rfl, a3 9 q (hno 9 (by omega)) rfl, b3 10 q (hno 10 (by omega)) rfl, a3 10 q (hno 10 (by omega)) rfl]; exact h9 q hq) b2
    refine ⟨M3, ?_, c2, fr_tr a3 (fr_tr b3 c3)⟩
    rw [fLabels_nameAbove_10, if_neg (by rw [h1]; exact nI_ge hkn (by omega)), rd_ok hk12 (by decide), (h9 k hkn).1, a1, cl_some, rd_ok hk12 (by decide), a3 10 k (hno 10 (by omega)) rfl, (h9 k hkn).2, b1, cl_some, nI_1]
    exact c1
theorem nmBegin_ok {M : zM} {c0 w : Nat} (v : Int32) (hM : M c0 1 = nI w) :
    ∃ M2, fNames_begin c0 v M = some ((), M2) ∧ NmX M2 c0 w (fun _ => []) ∧ M2 c0 2 = v ∧ fr [c0 + 1] [(c0, 2)] M M2 := by
  obtain ⟨M2, h1, h2, h3⟩ := fill_ok (c := c0 + 1) (N := 12) (by omega) 0 (zs M c0 2 v)
  have hf : fr [c0 + 1] [(c0, 2)] (zs M c0 2 v) M2 := fun c k hc _ => h3 c k (fun z => by rw [z.1] at hc; simp at hc)
  refine ⟨M2, ?_, ⟨?_, fun q hq => ⟨h2 q hq, Nat.zero_le _, fun j a hj => (by cases hj)⟩⟩, ?_, fr_tr (fr_zp fr_rf (by simp)) hf⟩
  · rw [fNames_begin, wf_eq, h1, cl_some]
  · rw [h3 c0 1 (by omega), zs_nk (by decide)]
    exact hM
  · rw [h3 c0 2 (by omega), zs_eq]
