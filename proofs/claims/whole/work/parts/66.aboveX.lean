/-! PURE: nameAbove, whole -/
theorem nameAbove_ok {n : Nat} {E : List (Nat × Nat)} (hW : gW n E) {c0 w : Nat} (hc : 14 ≤ c0) (hw2 : 2 ≤ w) (hw : w ≤ 26) (hz : zln (c0 + 2) = 12 * w) {M : zM} (hN : NetX M n E) (hca : M 5 13 = M 1 2 → TX M n E) (hB : NmX M c0 w (fun _ => [])) :
    ∃ M1 M2, fLabels_nameAbove c0 M = some ((), M2) ∧ NmX M2 c0 w (nmA n E n) ∧ TX M2 n E ∧ M2 5 13 = M 1 2 ∧ fr [6, 7, 8, 9, 10, 11, 12, 13] [(5, 1), (5, 2), (5, 10), (5, 11), (5, 13)] M M1 ∧ fr [c0 + 1, c0 + 2] [] M1 M2 := by
  have hn := hW.1.2
  obtain ⟨M1, a1, a2, a3, a4⟩ := fresh_ok hW hN hca
  have hfar : ∀ c kk, 14 ≤ c → M1 c kk = M c kk := fun c kk h => a4 c kk (by simp; omega) (by simp; omega)
  have hB1 : NmX M1 c0 w (nmA n E 0) := ⟨(hfar c0 1 hc).trans hB.1, fun q hq => ⟨(hfar (c0 + 1) q (by omega)).trans (hB.2 q hq).1, Nat.zero_le _, fun j a hj => (by cases hj)⟩⟩
  obtain ⟨M2, b1, b2, b3⟩ := above_X hW hc hw2 hw hz n 0 FU M1 (by omega) (by omega) (by unfold FU; omega) ((a4 1 0 rfl rfl).trans hN.1) a2.2.1 hB1
  have hno : ∀ c, c < 14 → [c0 + 1, c0 + 2].contains c = false := fun c h => by
    simp
    omega
  have hrow : ∀ c, c < 14 → M2 c = M1 c := fun c h => fr_row b3 c (hno c h)
  refine ⟨M1, M2, ?_, b2, a2.kept ?_ ?_ ?_, ?_, a4, b3⟩
  · rw [nI_0] at b1
    rw [fLabels_nameAbove, a1, cl_some, if_pos rfl]
    exact b1
  · rw [hrow 5 (by omega)]
    exact ⟨rfl, rfl, rfl, rfl⟩
  · exact ⟨hrow 6 (by omega), hrow 7 (by omega), hrow 8 (by omega), hrow 12 (by omega)⟩
  · exact ⟨hrow 9 (by omega), hrow 10 (by omega), hrow 11 (by omega)⟩
  · rw [hrow 5 (by omega)]
    exact a3
