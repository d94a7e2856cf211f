/-! PURE: steps that tell of the net -/
def gMx (E : List (Nat × Nat)) : Nat → Nat
  | 0 => 0
  | k + 1 => if gD E k ≤ gMx E k then gMx E k else gD E k
theorem gMx_le (E : List (Nat × Nat)) : ∀ k, gMx E k ≤ 12
  | 0 => Nat.zero_le _
  | k + 1 => by
    have h1 := gMx_le E k
    have h2 := gD_le E k
    rw [gMx]
    split <;> omega
theorem most_X {M : zM} {n : Nat} {E : List (Nat × Nat)} (hW : gW n E) (hN : NetX M n E) : fNet_mostLines M = some (nI (gMx E n), M) := by
  have hn := hW.1.2
  rw [fNet_mostLines]
  refine lpE (f := fun fu k (_ : Unit) M => fNet_mostLines_4 fu (nI (gMx E k)) (nI k) M) (n := n)
    (I := fun k _ M' => M' = M) (R := fun o => o = some (nI (gMx E n), M)) ?_ ?_ 0 FU () M (by omega) (fu_ok (by omega)) rfl
  · rintro fu - M' rfl
    rw [fNet_mostLines_4, hN.1, if_pos (nI_le (by omega) (by omega))]
  · rintro fu k - M' hk rfl
    right
    refine ⟨(), M', ?_, rfl⟩
    have h1 := gMx_le E k
    have h2 := gD_le E k
    rw [fNet_mostLines_4, hN.1, if_neg (nI_ge hk (by omega)), degree_ok hN (show k < 12 by omega), cl_some, lt_eq, nI_1, gMx]
    unfold zmax
    by_cases h : gD E k ≤ gMx E k
    · rw [if_neg (nI_nlt h (by omega)), if_pos h]
    · rw [if_pos (nI_lt (by omega) (by omega)), if_neg h]
theorem most_Y {M : zM} {n : Nat} {E : List (Nat × Nat)} (hW : gW n E) (hN : NetY M n E) (v : Int32) : ∃ fu, fMd_count_8 FU v 0 0 M = fMd_count_8 (fu + 1) v (nI (gMx E n)) (nI n) M := by
  have hn := hW.1.2
  refine lpE (f := fun fu k (_ : Unit) M => fMd_count_8 fu v (nI (gMx E k)) (nI k) M) (n := n)
    (I := fun k _ M' => M' = M) (R := fun o => ∃ fu, o = fMd_count_8 (fu + 1) v (nI (gMx E n)) (nI n) M) ?_ ?_ 0 FU () M (by omega) (fu_ok (by omega)) rfl
  · rintro fu - M' rfl
    exact ⟨fu, rfl⟩
  · rintro fu k - M' hk rfl
    right
    refine ⟨(), M', ?_, rfl⟩
    have h1 := gMx_le E k
    have h2 := gD_le E k
    rw [fMd_count_8, hN.1, if_neg (nI_ge hk (by omega)), Md_degree_ok hN hW (show k < 12 by omega), cl_some, Md_degree_ok hN hW (show k < 12 by omega), cl_some, nI_1, gMx]
    by_cases h : gD E k ≤ gMx E k
    · rw [if_pos (nI_le h (by omega)), if_pos h]
    · rw [if_neg (nI_ge (by omega) (by omega)), if_neg h]
def klS (B : bkT) : Nat → Int32
  | 0 => 0
  | k + 1 => klS B k + bI (bL B k)
theorem kinds_X {M : zM} {B : bkT} (hB : BX M B) : fNN_kindsLearned M = some (klS B 3, M) := by
  rw [fNN_kindsLearned]
  refine lpE (f := fun fu k (_ : Unit) M => fNN_kindsLearned_4 fu (klS B k) (nI k) M) (n := 3)
    (I := fun k _ M' => M' = M) (R := fun o => o = some (klS B 3, M)) ?_ ?_ 0 FU () M (by omega) (fu_ok (by omega)) rfl
  · rintro fu - M' rfl
    rw [fNN_kindsLearned_4, if_pos (by decide)]
  · rintro fu k - M' hk rfl
    right
    refine ⟨(), M', ?_, rfl⟩
    rw [fNN_kindsLearned_4, if_neg (show ¬ (3 : Int32) ≤ nI k from nI_ge (b := 3) hk (by omega)), rr_page hk, (hB k hk).1, lt_eq, lt_eq, klS]
    cases bL B k with
    | false => rw [bI_f, if_pos rfl, ← nI_1 k]
    | true => rw [bI_t, if_neg (by decide), ← nI_1 k]
theorem zsw_def {α : Type} {x : Int32} {d : Option α} : ∀ (rs : List (Option α)) (i : Nat), (∀ j, j < rs.length → ¬ x = nI (i + j)) → zsw x i rs d = d
  | [], i, _ => rfl
  | r :: rs, i, h => by
    rw [zsw, if_neg (by have := h 0 (by simp); rwa [Nat.add_zero] at this)]
    exact zsw_def rs (i + 1) (fun j hj => by
      have := h (j + 1) (by simp; omega)
      rwa [show i + (j + 1) = i + 1 + j by omega] at this)
theorem zsw_nI {α : Type} {d : Option α} {rs : List (Option α)} {j : Nat} {r : Option α} (hj : rs[j]? = some r) (hl : rs.length < 100 := by simp) : zsw (nI j) 0 rs d = r := zsw_hit rs 0 j r (by omega) hj (by rw [Nat.zero_add])
theorem not_small {v : Int32} {k : Nat} (hk : k < 2 ^ 31) (h : zin v k = false) : ∀ j, j < k → ¬ v = nI (0 + j) := fun j hj z => by
  rw [z, Nat.zero_add, zin_nI hj hk] at h
  cases h
theorem st_count (a0 : Int32) : zStep Rl (fun M => fNN_count a0 M) (fun M => fMd_count a0 M) := by
  rintro Mx My t ht ⟨n, E, B, tx, an, pl, c, h⟩
  have hW := h.1
  have hn := hW.1.2
  have hX := h.2.2.2.2.1
  have hY := h.2.2.2.2.2
  obtain ⟨M3, y1, y2, y3⟩ := findTree_q hW hY.1
  have hY3 := InvY_rd hY y3
  obtain ⟨fu, y4⟩ := most_Y hW hY3.1 a0
  have hlen := gTree_len hW
  have hT := gTree_W hW
  have hTN : tN (gTree n E) ≤ n := by have := hT.2.2.2; omega
  have ey : ∀ r, zsw a0 0 [some (M3 0 0, M3), some (M3 0 1, M3), some (M3 0 10, M3), some (M3 0 9, M3), (rd M3 17 3 0 fun x1 => cl (fMd_bit x1 M3) fun r3 M2 => rd M2 17 3 1 fun x4 => cl (fMd_bit x4 M2) fun r6 M5 => rd M5 17 3 2 fun x7 => cl (fMd_bit x7 M5) fun r9 M8 => some (((r3 + r6) + r9), M8)), some (M3 0 29, M3), some (M3 0 35, M3), some (nI (gMx E n), M3)] (some (-1002, M3)) = some (r, M3) → fMd_count a0 My = some (r, M3) := fun r hr => by
    rw [fMd_count, y1, cl_some, y4, fMd_count_8, hY3.1.1, if_pos (nI_le (by omega) (by omega))]
    rw [hY3.1.1] at hr
    exact hr
  rcases zin3_cases a0 (n := 8) (by decide) with ⟨j, hj, rfl, h1⟩ | h1
  · obtain ⟨M2, x1, x2, x3, x4, x5⟩ := fresh_q hW hX.1 hX.2.1
    have f5 : fq zRd Mx M2 := fq_mono x5 (fun c k h => by omega)
    have ex : ∀ {r : Option (Int32 × zM)}, _ := fun {r} (hr : _ = some r) => zsw_nI (α := Int32 × zM) (d := some (-1002, Mx)) (rs := [some (Mx 1 0, Mx), some (Mx 1 1, Mx), (cl (fTree_fresh Mx) fun r2 M1 => if r2 = 5 then some (((Mx 1 0) - (M1 5 1)), M1) else none), (cl (fTree_fresh Mx) fun r4 M3 => if r4 = 5 then some ((M3 5 1), M3) else none), (cl (fNN_kindsLearned Mx) fun r6 M5 => some (r6, M5)), some (Mx 56 2, Mx), some (Mx 56 11, Mx), (cl (fNet_mostLines Mx) fun r8 M7 => some (r8, M7))]) (j := j) (r := r) hr
    obtain z | z | z | z | z | z | z | z : j = 0 ∨ j = 1 ∨ j = 2 ∨ j = 3 ∨ j = 4 ∨ j = 5 ∨ j = 6 ∨ j = 7 := by omega
    · subst z
      refine ⟨nI n, Mx, M3, ?_, ey _ ?_, Rl_Y h y3⟩
      · show fNN_count (nI 0) Mx = _
        rw [fNN_count, ex rfl, hX.1.1]
      · rw [zsw_nI (j := 0) rfl, hY3.1.1]
    · subst z
      refine ⟨nI E.length, Mx, M3, ?_, ey _ ?_, Rl_Y h y3⟩
      · show fNN_count (nI 1) Mx = _
        rw [fNN_count, ex rfl, hX.1.2.1]
      · rw [zsw_nI (j := 1) rfl, hY3.1.2.1]
    · subst z
      refine ⟨nI (n - tN (gTree n E)), M2, M3, ?_, ey _ ?_, Rl_rd h f5 x3 y3⟩
      · show fNN_count (nI 2) Mx = _
        rw [fNN_count, ex rfl, x1, cl_some, if_pos rfl, hX.1.1, x2.1.2.2.1, pk_sub hTN]
      · rw [zsw_nI (j := 2) rfl, y2.2.2.2, hlen]
    · subst z
      refine ⟨nI (tN (gTree n E)), M2, M3, ?_, ey _ ?_, Rl_rd h f5 x3 y3⟩
      · show fNN_count (nI 3) Mx = _
        rw [fNN_count, ex rfl, x1, cl_some, if_pos rfl, x2.1.2.2.1]
      · rw [zsw_nI (j := 3) rfl, y2.2.2.1]
    · subst z
      refine ⟨klS B 3, Mx, M3, ?_, ey _ ?_, Rl_Y h y3⟩
      · show fNN_count (nI 4) Mx = _
        rw [fNN_count, ex rfl, kinds_X hX.2.2.2.2.2.2.1, cl_some]
      · rw [zsw_nI (j := 4) rfl, qlit0, rd_ok (show 0 < 3 by decide) (by decide), (hY3.2.1 0 (by omega)).1, bit_ok, cl_some, qlit1, rd_ok (show 1 < 3 by decide) (by decide), (hY3.2.1 1 (by omega)).1, bit_ok, cl_some, qlit2, rd_ok (show 2 < 3 by decide) (by decide), (hY3.2.1 2 (by omega)).1, bit_ok, cl_some, klS, klS, klS, klS]
        congr 2
        cases bL B 0 <;> cases bL B 1 <;> cases bL B 2 <;> decide
    · subst z
      refine ⟨nI tx.length, Mx, M3, ?_, ey _ ?_, Rl_Y h y3⟩
      · show fNN_count (nI 5) Mx = _
        rw [fNN_count, ex rfl, hX.2.2.2.2.2.2.2.1]
      · rw [zsw_nI (j := 5) rfl, hY3.2.2.1]
    · subst z
      refine ⟨nI an.length, Mx, M3, ?_, ey _ ?_, Rl_Y h y3⟩
      · show fNN_count (nI 6) Mx = _
        rw [fNN_count, ex rfl, hX.2.2.2.2.2.2.2.2.2.2.1]
      · rw [zsw_nI (j := 6) rfl, hY3.2.2.2.2.2.1]
    · subst z
      refine ⟨nI (gMx E n), Mx, M3, ?_, ey _ ?_, Rl_Y h y3⟩
      · show fNN_count (nI 7) Mx = _
        rw [fNN_count, ex rfl, most_X hW hX.1, cl_some]
      · rw [zsw_nI (j := 7) rfl]
  · refine ⟨-1002, Mx, M3, ?_, ey _ ?_, Rl_Y h y3⟩
    · show fNN_count a0 Mx = _
      rw [fNN_count]
      exact zsw_def _ 0 (fun j hj => not_small (k := 8) (by decide) h1 j hj)
    · exact zsw_def _ 0 (fun j hj => not_small (k := 8) (by decide) h1 j hj)
