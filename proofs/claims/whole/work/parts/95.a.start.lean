/-! PURE: the start -/
theorem start_Rl : Rl (mi_NN_0 (fun _ _ => 0)) (mi_Md_0 (fun _ _ => 0)) 0 := by
  have z0 : (nI 0 : Int32) = 0 := by decide
  have z1 : (nI 1 : Int32) = 1 := by decide
  refine ⟨1, [], fun _ => (false, 0, fun _ => [], fun _ => 0), [], [], -1, 0, ⟨⟨by omega, by omega⟩, by simp, by simp, by simp⟩, by omega, ?_, ⟨by simp, by simp, by simp⟩, ⟨⟨by rw [z1]; rfl, by rfl, by simp, ?_⟩, ⟨?_, ?_, ?_⟩, ?_, by rfl, ?_, Or.inl (by rfl), ?_, ⟨by rfl, by simp, by rfl, by rfl, by simp⟩⟩, ⟨by rw [z1]; rfl, by rfl, by simp⟩, ?_, ⟨by rfl, by simp, by rfl, by rfl, by simp⟩⟩
  · intro kd hk
    refine ⟨?_, ?_, ?_, ?_⟩
    · show 0 ≤ 12
      omega
    · intro _
      rfl
    · intro h
      cases h
    · intro q hq
      exact absurd hq (Nat.not_lt_zero q)
  · intro p hp
    have h0 : mkM (gA [] p) 12 = 0 := by
      have : ∀ p, p < 12 → mkM (gA [] p) 12 = 0 := by decide
      exact this p hp
    rw [h0]
    have : ∀ p, p < 12 → mi_NN_0 (fun _ _ => 0) 4 p = 0 := by decide
    rw [this p hp]
    rfl
  · intro h
    exact absurd h (by decide)
  · intro kd hk h
    have : ∀ kd, kd < 3 → ¬ mi_NN_0 (fun _ _ => 0) 16 kd = mi_NN_0 (fun _ _ => 0) 1 2 := by decide
    exact absurd h (this kd hk)
  · refine ⟨0, by rfl, by omega, Or.inl (by rfl), fun kd hk => Or.inl ?_⟩
    have : ∀ kd, kd < 3 → mi_NN_0 (fun _ _ => 0) 16 kd = -1 := by decide
    exact this kd hk
  · intro kd hk
    have : ∀ kd, kd < 3 → mi_NN_0 (fun _ _ => 0) (23 + 3 * kd) 0 = nI kd ∧ mi_NN_0 (fun _ _ => 0) (23 + 3 * kd) 1 = nI (wK kd) := by decide
    exact this kd hk
  · intro h
    exact absurd h (by decide)
  · intro kd hk
    have h1 : ∀ kd, kd < 3 → mi_NN_0 (fun _ _ => 0) (33 + 5 * kd) 0 = bI false ∧ mi_NN_0 (fun _ _ => 0) (35 + 5 * kd) 2 = nI 0 ∧ mi_NN_0 (fun _ _ => 0) (35 + 5 * kd) 0 = nI kd ∧ mi_NN_0 (fun _ _ => 0) (35 + 5 * kd) 1 = nI (wK kd) ∧ ∀ q, q < 12 → mi_NN_0 (fun _ _ => 0) (35 + 5 * kd + 1) q = nI 0 := by decide
    obtain ⟨a1, a2, a3, a4, a5⟩ := h1 kd hk
    refine ⟨a1, a2, a3, ⟨a4, fun q hq => ⟨a5 q hq, Nat.zero_le _, fun j a h => ?_⟩⟩, fun q hq => absurd hq (Nat.not_lt_zero q)⟩
    cases j <;> cases h
  · intro kd hk
    have h1 : ∀ kd, kd < 3 → mi_Md_0 (fun _ _ => 0) 17 kd = bI false ∧ mi_Md_0 (fun _ _ => 0) 18 kd = nI 0 := by decide
    exact ⟨(h1 kd hk).1, (h1 kd hk).2, fun q hq => absurd hq (Nat.not_lt_zero q)⟩
