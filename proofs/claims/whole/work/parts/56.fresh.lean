/-! PURE: the class's tree, fresh -/
/-- the class's tree stands for this net -/
def TX (M : zM) (n : Nat) (E : List (Nat × Nat)) : Prop := SX M n (gTree n E) ∧ (∀ q, q < n → M 9 q = nI ((tEL (gTree n E)).1 q) ∧ M 10 q = nI ((tEL (gTree n E)).2.1 q)) ∧ ∀ l, l < E.length → M 11 l = nI (gLN E (gTree n E) l)
theorem mkM_no (k : Nat) {f : Nat → Bool} (h : ∀ j, j < k → f j = false) : mkM f k = 0 := by
  refine (mkM_of (Nat.two_pow_pos k) (fun j hj => ?_)).symm
  rw [h j hj, Nat.zero_testBit]
theorem SX_zero {M : zM} {n : Nat} (h1 : M 5 1 = 0) (h2 : M 5 2 = 0) (h3 : M 5 10 = 0) (h4 : M 5 11 = 0) : SX M n tZero := by
  refine ⟨h3, ?_, h1, ?_, fun ii qq hq => (by cases hq), fun qq hq => (by cases hq)⟩
  · rw [h4, mkM_no 12 (f := fun q => decide (q ∈ tO tZero)) (fun j _ => decide_eq_false (fun hz => absurd hz List.not_mem_nil))]
    rfl
  · rw [h2, mkM_no 30 (fun j _ => by simp [tZero])]
    rfl
theorem TX.kept {M M2 : zM} {n : Nat} {E : List (Nat × Nat)} (h : TX M n E) (h1 : M2 5 1 = M 5 1 ∧ M2 5 2 = M 5 2 ∧ M2 5 10 = M 5 10 ∧ M2 5 11 = M 5 11) (h2 : M2 6 = M 6 ∧ M2 7 = M 7 ∧ M2 8 = M 8 ∧ M2 12 = M 12) (h3 : M2 9 = M 9 ∧ M2 10 = M 10 ∧ M2 11 = M 11) : TX M2 n E :=
  ⟨h.1.kept h1 h2, fun q hq => by rw [h3.1, h3.2.1]; exact h.2.1 q hq, fun l hl => by rw [h3.2.2]; exact h.2.2 l hl⟩
theorem fresh_new {n : Nat} {E : List (Nat × Nat)} (hW : gW n E) {M : zM} (hN : NetX M n E) (hold : ¬ M 5 13 = M 1 2) :
    ∃ M2, fTree_fresh M = some (5, M2) ∧ TX M2 n E ∧ M2 5 13 = M 1 2 ∧ fr [6, 7, 8, 9, 10, 11, 12, 13] [(5, 1), (5, 2), (5, 10), (5, 11), (5, 13)] M M2 := by
  have hn := hW.1.2
  obtain ⟨M0, hM0⟩ : ∃ M0, M0 = zs (zs (zs (zs (zs M 5 13 (M 1 2)) 5 1 0) 5 2 0) 5 10 0) 5 11 0 := ⟨_, rfl⟩
  have e1 : M0 5 1 = 0 := by rw [hM0]; simp [zs_at]
  have e2 : M0 5 2 = 0 := by rw [hM0]; simp [zs_at]
  have e3 : M0 5 10 = 0 := by rw [hM0]; simp [zs_at]
  have e4 : M0 5 11 = 0 := by rw [hM0]; simp [zs_at]
  have e5 : M0 5 13 = M 1 2 := by rw [hM0]; simp [zs_at]
  have e6 : fr [6, 7, 8, 9, 10, 11, 12, 13] [(5, 1), (5, 2), (5, 10), (5, 11), (5, 13)] M M0 := by
    rw [hM0]
    exact fr_zp (fr_zp (fr_zp (fr_zp (fr_zp fr_rf rfl) rfl) rfl) rfl) rfl
  have e7 : fTree_fresh M = fTree_fresh_31 FU (nI 0) M0 := by
    rw [hM0, nI_0]
    unfold fTree_fresh fTree_clear
    rw [if_neg hold, wf_eq, wf_eq, wf_eq, wf_eq, wf_eq, cl_some]
  clear hM0
  have hN0 : NetX M0 n E := hN.kept ⟨e6 1 0 rfl rfl, e6 1 1 rfl rfl⟩ ⟨funext fun kk => e6 2 kk rfl (by simp), funext fun kk => e6 3 kk rfl (by simp), funext fun kk => e6 4 kk rfl (by simp)⟩
  obtain ⟨M1, a1, a2, a3, a4⟩ := growAll_X hW n 0 FU tZero M0 (by omega) (by omega) (by unfold FU; omega) (tW_zero n) (SX_zero e1 e2 e3 e4) hN0
  have hN1 : NetX M1 n E := hN0.kept ⟨a4 1 0 rfl rfl, a4 1 1 rfl rfl⟩ ⟨funext fun kk => a4 2 kk rfl (by simp), funext fun kk => a4 3 kk rfl (by simp), funext fun kk => a4 4 kk rfl (by simp)⟩
  have hT := gTree_W hW
  obtain ⟨M2, b1, b2, b3⟩ := number_X hW hT (gTree_C n E) (gTree_M hW).2 a2
  have hN2 : NetX M2 n E := frT hN1 b3 rfl rfl rfl rfl rfl rfl (fun kk => ⟨rfl, rfl, rfl⟩)
  have hS2 : SX M2 n (gTree n E) := a2.kept ⟨b3 5 1 rfl rfl, b3 5 2 rfl rfl, b3 5 10 rfl rfl, b3 5 11 rfl rfl⟩ ⟨fr_row b3 6 rfl, fr_row b3 7 rfl, fr_row b3 8 rfl, fr_row b3 12 rfl⟩
  obtain ⟨M3, c1, c2, c3⟩ := nameLines_X hW hT (gTree_C n E) (fun q hq => gTree_mem hq) hN2 hS2
  have hS3 : SX M3 n (gTree n E) := hS2.kept ⟨c3 5 1 rfl rfl, c3 5 2 rfl rfl, c3 5 10 rfl rfl, c3 5 11 rfl rfl⟩ ⟨fr_row c3 6 rfl, fr_row c3 7 rfl, fr_row c3 8 rfl, fr_row c3 12 rfl⟩
  refine ⟨M3, ?_, ⟨hS3, fun q hq => ?_, c2⟩, ?_, ?_⟩
  · rw [e7, a1, b1, cl_some, c1, cl_some]
  · rw [c3 9 q rfl rfl, c3 10 q rfl rfl]
    exact b2 q (gTree_mem hq)
  · rw [c3 5 13 rfl rfl, b3 5 13 rfl rfl, a4 5 13 rfl rfl, e5]
  · refine fr_tr e6 (fr_tr (fr_mono a4 (fun c hc => ?_) (fun x _ hx => ?_)) (fr_tr (fr_mono b3 (fun c hc => ?_) (fun _ _ _ => rfl)) (fr_mono c3 (fun c hc => ?_) (fun _ _ _ => rfl))))
    · simp at hc ⊢
      omega
    · simp at hx ⊢
      exact ⟨hx.1, hx.2.1, hx.2.2.1, hx.2.2.2.1⟩
    · simp at hc ⊢
      omega
    · simp at hc ⊢
      omega
theorem fresh_old {M : zM} (h : M 5 13 = M 1 2) : fTree_fresh M = some (5, M) := by
  unfold fTree_fresh
  rw [if_pos h]
/-- fresh, whether it stood or not -/
theorem fresh_ok {n : Nat} {E : List (Nat × Nat)} (hW : gW n E) {M : zM} (hN : NetX M n E) (hc : M 5 13 = M 1 2 → TX M n E) :
    ∃ M2, fTree_fresh M = some (5, M2) ∧ TX M2 n E ∧ M2 5 13 = M 1 2 ∧ fr [6, 7, 8, 9, 10, 11, 12, 13] [(5, 1), (5, 2), (5, 10), (5, 11), (5, 13)] M M2 := by
  by_cases h : M 5 13 = M 1 2
  · exact ⟨M, fresh_old h, hc h, h, fr_rf⟩
  · exact fresh_new hW hN h
