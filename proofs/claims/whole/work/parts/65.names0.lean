/-! PURE: findNames of the reference, to where kinds part; and its first kind -/
def kindY (v1 : Int32) (M : zM) : Option (Unit × zM) :=
  if ¬ v1 = 0 then
    (if ¬ v1 = 1 then
      (if ¬ v1 = 2 then fMd_findNames_59 FU v1 0 M
      else cl (fMd_findHubs M) fun _ M1 => fMd_findNames_59 FU v1 0 M1)
    else cl (fMd_findRows M) fun _ M2 => fMd_findNames_59 FU v1 0 M2)
  else cl (fMd_findSpans M) fun _ M3 => fMd_findNames_59 FU v1 0 M3
theorem names6 (v1 : Int32) : ∀ (d k fuel : Nat) (M : zM), 12 - k = d → k ≤ 12 → d < fuel → (∀ q, q < k → M 12 q = 0) →
    ∃ M2, fMd_findNames_6 fuel v1 (nI k) M = kindY v1 M2 ∧ NmY M2 (fun _ => []) ∧ fr [12] [] M M2 := by
  intro d
  induction d with
  | zero =>
    intro k fuel M hd hk hf h
    obtain ⟨fuel, rfl⟩ : ∃ k, fuel = k + 1 := ⟨fuel - 1, by omega⟩
    refine ⟨M, ?_, fun q hq => ⟨h q (by omega), fun j a hj => (by cases hj)⟩, fr_rf⟩
    have hke : k = 12 := by omega
    rw [fMd_findNames_6, if_pos (by rw [hke]; decide), kindY]
  | succ d ih =>
    intro k fuel M hd hk hf h
    obtain ⟨fuel, rfl⟩ : ∃ k, fuel = k + 1 := ⟨fuel - 1, by omega⟩
    have hfr : fr [12] [] M (zs M 12 k 0) := fr_zs fr_rf rfl
    obtain ⟨M2, h1, h2, h3⟩ := ih (k + 1) fuel (zs M 12 k 0) (by omega) (by omega) (by omega) (fun q hq => by
      by_cases hqk : q = k
      · rw [hqk, zs_eq]
      · rw [zs_nk hqk]
        exact h q (by omega))
    refine ⟨M2, ?_, h2, fr_tr hfr h3⟩
    rw [fMd_findNames_6, if_neg (show ¬ (12 : Int32) ≤ nI k from nI_ge (a := k) (b := 12) (by omega) (by omega)), wr_ok (show k < 12 by omega) (by decide), nI_1]
    exact h1
theorem SY.par {M : zM} {n : Nat} {E : List (Nat × Nat)} (hN : NetY M n E) (hS : SY M n (gTree n E)) : parY M n E := ⟨hN.1, fun x hx => (hS.2.1 x (gTree_mem hx)).1⟩
theorem findNames_0 {n : Nat} {E : List (Nat × Nat)} (hW : gW n E) {M : zM} (hN : NetY M n E) :
    ∃ M2, fMd_findNames 0 M = some ((), M2) ∧ NmY M2 (nmA n E n) ∧ SY M2 n (gTree n E) ∧ fr [3, 4, 5, 6, 7, 8, 9, 12, 13] [(0, 9), (0, 10)] M M2 := by
  have hn := hW.1.2
  obtain ⟨M1, a1, a2, a3⟩ := findTree_Y hW hN
  have hN1 := frY hN a3 rfl rfl rfl rfl rfl (fun kk => ⟨by simp, by simp⟩)
  obtain ⟨M2, b1, b2, b3⟩ := names6 0 12 0 FU M1 (by omega) (by omega) (by unfold FU; omega) (fun q hq => by omega)
  have hP2 : parY M2 n E := ⟨(b3 0 0 rfl rfl).trans hN1.1, fun x hx => (b3 3 x rfl rfl).trans ((SY.par hN1 a2).2 x hx)⟩
  obtain ⟨M3, c1, c2, c3⟩ := findSpans_ok hW hP2
  have hN3 : NmY M3 (nmA n E 0) := fun q hq => by
    rw [c3 12 q rfl rfl]
    exact ⟨(b2 q hq).1, fun j a hj => (by cases hj)⟩
  obtain ⟨M4, d1, d2, d3⟩ := above_Y hW n 0 FU M3 (by omega) (by omega) (by unfold FU; omega) ((hP2.kept c3).1) c2 hN3
  have hrow : ∀ c kk, c < 8 → M4 c kk = M1 c kk := fun c kk hc => by
    rw [d3 c kk (by simp; omega) rfl, c3 c kk (by simp; omega) rfl, b3 c kk (by simp; omega) rfl]
  refine ⟨M4, ?_, d2, ?_, ?_⟩
  · rw [nI_0] at b1 d1
    rw [fMd_findNames, a1, cl_some, b1, kindY, if_neg (by decide), c1, cl_some]
    exact d1
  · refine ⟨fun q hq => ?_, fun q hq => ?_, ?_, ?_⟩
    · rw [hrow 4 q (by omega)]
      exact a2.1 q hq
    · rw [hrow 3 q (by omega), hrow 5 q (by omega), hrow 6 q (by omega)]
      exact a2.2.1 q hq
    · rw [hrow 0 9 (by omega)]
      exact a2.2.2.1
    · rw [hrow 0 10 (by omega)]
      exact a2.2.2.2
  · intro c kk hc hp
    simp at hc hp
    rw [d3 c kk (by simp; omega) rfl, c3 c kk (by simp; omega) rfl, b3 c kk (by simp; omega) rfl]
    exact a3 c kk (by simp; omega) (by simp; exact hp)
