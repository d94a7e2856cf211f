/-! PURE: steps name and bits -/
theorem names3_Y {M : zM} {n : Nat} {E : List (Nat × Nat)} (hW : gW n E) (hN : NetY M n E) : ∃ M2, fMd_findNames 3 M = some ((), M2) ∧ NmY M2 (upto (fun p => [tA (gTree n E) p]) n) ∧ SY M2 n (gTree n E) ∧ fq zY M M2 := by
  have hn := hW.1.2
  obtain ⟨M1, a1, a2, a3⟩ := findTree_q hW hN
  have hN1 := fq_netY a3 hN (fun k => by omega)
  obtain ⟨M2, b1, b2, b3⟩ := names6 3 12 0 FU M1 (by omega) (by omega) (by unfold FU; omega) (fun q hq => by omega)
  have b3 : fq (fun c _ => c = 12) M1 M2 := fq_fr b3 (fun c k hc => by simp; omega)
  have hN2 := fq_netY b3 hN1 (fun k => by omega)
  have hS2 := SY.fq a2 b3 (fun k => by omega)
  rw [nI_0] at b1
  have e1 : fMd_findNames_59 FU 3 0 M2 = fMd_findNames_101 FU 3 0 M2 := by
    rw [show fMd_findNames_59 FU 3 0 M2 = fMd_findNames_59 (4999 + 1) 3 0 M2 from rfl, fMd_findNames_59, if_pos (show ¬ (3 : Int32) = 0 by decide), ite_self]
  rw [fMd_findNames, a1, cl_some, b1, kindY, if_pos (by decide), if_pos (by decide), if_pos (by decide), e1]
  refine lpE (f := fun fu k (_ : Unit) M => fMd_findNames_101 fu 3 (nI k) M) (n := n)
    (I := fun k _ M' => NmY M' (upto (fun p => [tA (gTree n E) p]) k) ∧ fq (fun c _ => c = 12 ∨ c = 13) M2 M')
    (R := fun o => ∃ M2, o = some ((), M2) ∧ NmY M2 (upto (fun p => [tA (gTree n E) p]) n) ∧ SY M2 n (gTree n E) ∧ fq zY M M2) ?_ ?_ 0 FU () M2 (by omega) (fu_ok (by omega)) ⟨b2, fq_rf⟩
  · rintro fu - M' ⟨h1, h2⟩
    refine ⟨M', ?_, h1, SY.fq hS2 h2 (fun k => by omega), fq_tr a3 (fq_tr (fq_mono b3 (fun c k h => by omega)) (fq_mono h2 (fun c k h => by omega)))⟩
    rw [fMd_findNames_101, h2 0 0 (by omega), hN2.1, if_pos (nI_le (by omega) (by omega))]
  · rintro fu k - M' hk ⟨h1, h2⟩
    right
    have hS' := SY.fq hS2 h2 (fun k => by omega)
    obtain ⟨M3, p1, p2, p3⟩ := put_ok h1 (fun q _ => upto_len (n := n) (b := 26) (fun _ _ => (by simp)) (by omega) q) (a := tA (gTree n E) k) (show k < 12 by omega) (by rw [upto_self]; decide)
    rw [upto_self] at p2
    refine ⟨(), M3, ?_, ?_, fq_tr h2 (fq_fr p3 (fun c k hc => by simp; omega))⟩
    · rw [fMd_findNames_101, h2 0 0 (by omega), hN2.1, if_neg (nI_ge hk (by omega)), if_neg (not_not_intro rfl), wayUp_ok hW (gTree_W hW) (gTree_C n E) hS' (gTree_mem hk), cl_some, p1, cl_some, nI_1]
    · have e : fup (upto (fun p => [tA (gTree n E) p]) k) k ([] ++ [tA (gTree n E) k]) = upto (fun p => [tA (gTree n E) p]) (k + 1) := upto_succ
      rw [e] at p2
      exact p2
theorem in03 (v : Int32) (M : zM) : fMd_in v.toInt64 0 3 M = some (bI (zin v 4), M) := by
  have := zin_sub (v := v) (k := 4) (by decide)
  rw [show (0 : Int64) = (0 : Int32).toInt64 from rfl, show (3 : Int64) = (3 : Int32).toInt64 from rfl, in_I, ← this]
  rfl
/-- number k of a list, as both sides give it -/
def numL (l : List Nat) (v : Int32) : Int32 := if v = -1 then nI l.length else oI (if zin v l.length = true then l[v.toNatClampNeg]? else none)
theorem num_Y {M : zM} {q : Nat} {l : List Nat} (h : rowY M q l) (hq : q < 12) (hl : l.length ≤ 26) (v : Int32) : (if ¬ v = -1 then (rd M 12 12 (nI q) fun x6 => cl (fMd_in v.toInt64 0 ((x6 - 1).toInt64) M) fun r8 M7 => if r8 = 0 then some (-1, M7) else (rd M7 13 312 ((26 * nI q) + v) fun x9 => some (x9, M7))) else (rd M 12 12 (nI q) fun x10 => some (x10, M))) = some (numL l v, M) := by
  unfold numL
  rw [rd_ok hq (by decide), rd_ok hq (by decide), h.1, in_size (by omega), cl_some]
  by_cases h1 : v = -1
  · rw [if_neg (not_not_intro h1), if_pos h1]
  · rw [if_pos h1, if_neg h1]
    rcases zin3_cases v (n := l.length) (by omega) with ⟨j, hj, rfl, h2⟩ | h2
    · rw [h2, bI_t, if_neg (by decide), if_pos rfl, qlit26, nI_times, nI_add, rowY_get h hq hl hj, nI_clamp (by omega), getD_some hj]
      rfl
    · rw [h2, bI_f, if_pos rfl, if_neg (by decide)]
      rfl
theorem st_name (a0 a1 a2 : Int32) : zStep Rl (fun M => fNN_name a0 a1 a2 M) (fun M => fMd_name a0 a1 a2 M) := by
  rintro Mx My t ht ⟨n, E, B, tx, an, pl, c, h⟩
  have hW := h.1
  have hn := hW.1.2
  have hX := h.2.2.2.2.1
  have hY := h.2.2.2.2.2
  rcases zin3_cases a1 (n := n) (by omega) with ⟨p, hp, rfl, h0⟩ | h0
  · have hp12 : p < 12 := by omega
    have ey : ∀ {kd : Nat} {M3 : zM} {l : List Nat}, kd < 4 → fMd_findNames (nI kd) My = some ((), M3) → rowY M3 p l → l.length ≤ 26 → fMd_name (nI kd) (nI p) a2 My = some (numL l a2, M3) := fun {kd M3 l} hk h1 h2 h3 => by
      rw [fMd_name, noPost_ok hY.1 hW, cl_some, h0, Bool.not_true, bI_f, if_pos rfl, in03, cl_some, zin_nI hk (by decide), bI_t, if_pos (by decide), h1, cl_some]
      exact num_Y h2 hp12 h3 a2
    rcases zin3_cases a0 (n := 3) (by decide) with ⟨kd, hk, rfl, h1⟩ | h1
    · obtain ⟨M2, x1, x2, x3, x4, x5, x6⟩ := now_ok hW hX.1 hX.2.1 hX.2.2.1 hk
      obtain ⟨M3, y1, y2, y3, y4⟩ := findNames_ok hW hY.1 hk
      have hsh := nmK_shp (E := E) hW hk hp
      have := wK_le kd
      refine ⟨numL (nmK n E kd p) a2, M2, M3, ?_, ey (by omega) y1 (y2 p hp12) (by have := hsh.1; omega), Rl_rd h (zRd_of_zL x6) x3 y4⟩
      show fNN_name (nI kd) (nI p) a2 Mx = _
      rw [fNN_name, hasPost_ok hX.1 hW, cl_some, h0, bI_t, if_pos (by decide), if_pos (show ¬ nI kd = 3 from fun z => by have := (nI_eq (a := kd) (b := 3) (by omega) (by omega)).mp z; omega), named_X, cl_some, h1, bI_t, if_pos (by decide), x1, cl_some, if_pos (zNb_row hk), num_gen x2.1 (by omega) (zl_row hk) hp12, cl_some]
      rfl
    · by_cases h3 : a0 = 3
      · subst h3
        obtain ⟨M3, y1, y2, y3, y4⟩ := names3_Y hW hY.1
        have hrow : rowY M3 p [tA (gTree n E) p] := by
          have := y2 p hp12
          unfold upto at this
          rw [if_pos hp] at this
          exact this
        have ex : fNN_name 3 (nI p) a2 Mx = if ¬ a2 = -1 then (if ¬ a2 = 0 then some (-1, Mx) else (cl (fTree_fresh Mx) fun r10 M9 => if r10 = 5 then (rd M9 8 12 (nI p) fun x11 => some (x11, M9)) else none)) else some (1, Mx) := by
          rw [fNN_name, hasPost_ok hX.1 hW, cl_some, h0, bI_t, if_pos (by decide), if_neg (not_not_intro rfl)]
        have ey3 := ey (kd := 3) (by decide) y1 hrow (by simp)
        by_cases c1 : a2 = -1
        · refine ⟨1, Mx, M3, ?_, ?_, Rl_Y h y4⟩
          · show fNN_name 3 (nI p) a2 Mx = _
            rw [ex, if_neg (not_not_intro c1)]
          · show fMd_name 3 (nI p) a2 My = _
            refine ey3.trans ?_
            unfold numL
            rw [if_pos c1]
            rfl
        · by_cases c2 : a2 = 0
          · obtain ⟨M2, x1, x2, x3, x4, x5⟩ := fresh_q hW hX.1 hX.2.1
            refine ⟨nI (tA (gTree n E) p), M2, M3, ?_, ?_, Rl_rd h (fq_mono x5 (fun c k h => by omega)) x3 y4⟩
            · show fNN_name 3 (nI p) a2 Mx = _
              rw [ex, if_pos c1, if_neg (not_not_intro c2), x1, cl_some, if_pos rfl, rd_ok hp12 (by decide), (x2.1.2.2.2.2.2 p (gTree_mem hp)).2.2]
            · show fMd_name 3 (nI p) a2 My = _
              refine ey3.trans ?_
              unfold numL
              rw [if_neg c1, c2]
              rfl
          · refine ⟨-1, Mx, M3, ?_, ?_, Rl_Y h y4⟩
            · show fNN_name 3 (nI p) a2 Mx = _
              rw [ex, if_pos c1, if_pos c2]
            · show fMd_name 3 (nI p) a2 My = _
              refine ey3.trans ?_
              unfold numL
              rw [if_neg c1, if_neg]
              · rfl
              · intro z
                obtain ⟨j, hj, e⟩ := zin_ex z (by simp)
                have : j = 0 := by
                  have : j < 1 := hj
                  omega
                rw [this] at e
                exact c2 e
      · refine ⟨-1002, Mx, My, ?_, ?_, Rl_same h⟩
        · show fNN_name a0 (nI p) a2 Mx = _
          rw [fNN_name, hasPost_ok hX.1 hW, cl_some, h0, bI_t, if_pos (by decide), if_pos h3, named_X, cl_some, h1, bI_f, if_neg (not_not_intro rfl)]
        · show fMd_name a0 (nI p) a2 My = _
          have h4 : zin a0 4 = false := by
            rw [Bool.eq_false_iff]
            intro z
            obtain ⟨j, hj, e⟩ := zin_ex z (by decide)
            by_cases hj3 : j < 3
            · rw [e, zin_nI hj3 (by decide)] at h1
              cases h1
            · have : j = 3 := by omega
              rw [this] at e
              exact h3 e
          rw [fMd_name, noPost_ok hY.1 hW, cl_some, h0, Bool.not_true, bI_f, if_pos rfl, in03, cl_some, h4, bI_f, if_neg (not_not_intro rfl)]
  · refine ⟨-1001, Mx, My, ?_, ?_, Rl_same h⟩
    · show fNN_name a0 a1 a2 Mx = _
      rw [fNN_name, hasPost_ok hX.1 hW, cl_some, h0, bI_f, if_neg (not_not_intro rfl)]
    · show fMd_name a0 a1 a2 My = _
      rw [fMd_name, noPost_ok hY.1 hW, cl_some, h0, Bool.not_false, bI_t, if_neg (by decide)]
/-! bits -/
def wdN (n : Nat) : Nat := if n ≤ 2 then 1 else if n ≤ 4 then 2 else if n ≤ 8 then 3 else 4
theorem b39_step {v1 v2 : Int32} {k r fu : Nat} {M : zM} (hr : 0 < r) (hr2 : r < 2 ^ 31) : fNN_bitsOf_39 (fu + 1) v1 v2 (nI k) (nI r) M = fNN_bitsOf_39 fu v1 v2 (nI (k + 1)) (nI (r / 2)) M := by
  rw [fNN_bitsOf_39, if_neg (nI_nle hr hr2), lt_eq, show zshr (nI r) 1 = nI (r / 2) from zshr_nI (j := 1) hr2 (by decide), nI_1]
theorem b39_end {v1 v2 : Int32} {k fu : Nat} {M : zM} : fNN_bitsOf_39 (fu + 1) v1 v2 (nI k) (nI 0) M = (cl (fLabels_now v1 M) fun r2 M1 => if zNb r2 = true then (rd M1 (r2 + 1) 12 v2 fun x3 => some ((nI k * x3), M1)) else none) := by
  rw [fNN_bitsOf_39, if_pos (by decide)]
theorem b39_all {v1 v2 : Int32} {n : Nat} {M : zM} (hn : 1 ≤ n ∧ n ≤ 12) : fNN_bitsOf_39 FU v1 v2 1 (nI ((n - 1) / 2)) M = (cl (fLabels_now v1 M) fun r2 M1 => if zNb r2 = true then (rd M1 (r2 + 1) 12 v2 fun x3 => some ((nI (wdN n) * x3), M1)) else none) := by
  rw [show FU = 4996 + 1 + 1 + 1 + 1 from rfl, qlit1]
  unfold wdN
  by_cases h1 : n ≤ 2
  · rw [if_pos h1, show (n - 1) / 2 = 0 by omega, b39_end]
  · rw [if_neg h1]
    by_cases h2 : n ≤ 4
    · rw [if_pos h2, b39_step (by omega) (by omega), show (n - 1) / 2 / 2 = 0 by omega, b39_end]
    · rw [if_neg h2]
      by_cases h3 : n ≤ 8
      · rw [if_pos h3, b39_step (by omega) (by omega), b39_step (by omega) (by omega), show (n - 1) / 2 / 2 / 2 = 0 by omega, b39_end]
      · rw [if_neg h3, b39_step (by omega) (by omega), b39_step (by omega) (by omega), b39_step (by omega) (by omega), show (n - 1) / 2 / 2 / 2 / 2 = 0 by omega, b39_end]
theorem b2_all {kd q n l : Nat} {M : zM} (hn : 1 ≤ n ∧ n ≤ 12) (h0 : M 0 0 = nI n) (hk : kd < 4) (hq : q < 12) (h12 : M 12 q = nI l) : fMd_bitsOf (nI kd) (nI q) M = some (if kd = 3 then M 0 10 else nI (wdN n * l), M) := by
  have hsh : ∀ w, w < 32 → zshr (M 0 0 - 1) (nI w) = nI ((n - 1) / 2 ^ w) := fun w hw => by
    rw [h0, show nI n - 1 = nI (n - 1) from pk_sub (b := 1) (by omega), zshr_nI (by omega) hw]
  have fin : ∀ w fu, w < 32 → (n - 1) / 2 ^ w = 0 → fMd_bitsOf_2 (fu + 1) (nI kd) (nI q) (nI w) M = some (if kd = 3 then M 0 10 else nI (w * l), M) := fun w fu hw hz => by
    rw [fMd_bitsOf_2, hsh w hw, hz, if_pos (by decide), rd_ok hq (by decide), h12, nI_times]
    by_cases h3 : kd = 3
    · rw [if_pos h3, if_neg (by rw [h3]; exact not_not_intro rfl)]
    · rw [if_neg h3, if_pos (show ¬ nI kd = 3 from fun z => h3 ((nI_eq (a := kd) (b := 3) (by omega) (by omega)).mp z))]
  have step : ∀ w fu, w < 32 → 0 < (n - 1) / 2 ^ w → (n - 1) / 2 ^ w < 100 → fMd_bitsOf_2 (fu + 1) (nI kd) (nI q) (nI w) M = fMd_bitsOf_2 fu (nI kd) (nI q) (nI (w + 1)) M := fun w fu hw hz hz2 => by
    rw [fMd_bitsOf_2, hsh w hw, if_neg (nI_nle hz (by omega)), nI_1]
  rw [fMd_bitsOf, show FU = 4996 + 1 + 1 + 1 + 1 from rfl, qlit1]
  unfold wdN
  by_cases h1 : n ≤ 2
  · rw [if_pos h1, fin 1 _ (by decide) (by omega)]
  · rw [if_neg h1]
    by_cases h2 : n ≤ 4
    · rw [if_pos h2, step 1 _ (by decide) (by omega) (by omega), fin 2 _ (by decide) (by omega)]
    · rw [if_neg h2]
      by_cases h3 : n ≤ 8
      · rw [if_pos h3, step 1 _ (by decide) (by omega) (by omega), step 2 _ (by decide) (by omega) (by omega), fin 3 _ (by decide) (by omega)]
      · rw [if_neg h3, step 1 _ (by decide) (by omega) (by omega), step 2 _ (by decide) (by omega) (by omega), step 3 _ (by decide) (by omega) (by omega), fin 4 _ (by decide) (by omega)]
noncomputable def bitN (n : Nat) (E : List (Nat × Nat)) (kd p : Nat) : Nat := if kd = 3 then n - tN (gTree n E) else wdN n * (nmK n E kd p).length
theorem bitN_lt {n : Nat} {E : List (Nat × Nat)} (hW : gW n E) {kd p : Nat} (hk : kd < 4) (hp : p < n) : bitN n E kd p < 200 := by
  have hn := hW.1.2
  unfold bitN
  by_cases h3 : kd = 3
  · rw [if_pos h3]
    omega
  · rw [if_neg h3]
    have h1 := (nmK_shp (E := E) hW (show kd < 3 by omega) hp).1
    have h2 := wK_le kd
    have h4 : wdN n ≤ 4 := by
      unfold wdN
      split
      · decide
      · split
        · decide
        · split <;> decide
    have h5 : wdN n * (nmK n E kd p).length ≤ 4 * 24 := Nat.mul_le_mul h4 (by omega)
    omega
theorem bits_X1 {M : zM} {n : Nat} {E : List (Nat × Nat)} (hW : gW n E) (hN : NetX M n E) (hC : CX M n E) (hK : KX M) {kd p : Nat} (hk : kd < 4) (hp : p < n) : ∃ M2, fNN_bitsOf (nI kd) (nI p) M = some (nI (bitN n E kd p), M2) ∧ NetX M2 n E ∧ CX M2 n E ∧ KX M2 ∧ fq zL M M2 := by
  have hn := hW.1
  unfold bitN
  by_cases h3 : kd = 3
  · subst h3
    obtain ⟨M2, x1, x2, x3, x4, x5⟩ := fresh_q hW hN hC
    have hTN : tN (gTree n E) ≤ n := by have := (gTree_W hW).2.2.2; have := gTree_len hW; omega
    have f : fq zL M M2 := fq_mono x5 (fun c k h => by omega)
    refine ⟨M2, ?_, x4, x3, hK.fq f (fun c k h1 h2 => by omega), f⟩
    rw [fNN_bitsOf, if_neg (show ¬ ¬ nI 3 = 3 from not_not_intro rfl), x1, cl_some, if_pos rfl, hN.1, x2.1.2.2.1, pk_sub hTN, if_pos rfl]
  · rw [if_neg h3]
    obtain ⟨M2, x1, x2, x3, x4, x5, x6⟩ := now_ok hW hN hC hK (show kd < 3 by omega)
    refine ⟨M2, ?_, x5, x3, x4, x6⟩
    rw [fNN_bitsOf, if_pos (show ¬ nI kd = 3 from fun z => h3 ((nI_eq (a := kd) (b := 3) (by omega) (by omega)).mp z)), lt_eq, hN.1, show nI n - 1 = nI (n - 1) from pk_sub (b := 1) (by omega), show zshr (nI (n - 1)) 1 = nI ((n - 1) / 2) from zshr_nI (j := 1) (by omega) (by decide), b39_all hn, x1, cl_some, if_pos (zNb_row (by omega)), rd_ok (show p < 12 by omega) (by decide), (x2.1.2 p (by omega)).1, nI_times]
def gAm (f : Nat → Nat) : Nat → Nat
  | 0 => 0
  | k + 1 => if f k ≤ f (gAm f k) then gAm f k else k
theorem gAm_lt {f : Nat → Nat} : ∀ k, gAm f k ≤ k - 1
  | 0 => Nat.zero_le _
  | k + 1 => by
    have := gAm_lt (f := f) k
    rw [gAm]
    split <;> omega
theorem st_bits (a0 a1 : Int32) : zStep Rl (fun M => fNN_bits a0 a1 M) (fun M => fMd_bits a0 a1 M) := by
  rintro Mx My t ht ⟨n, E, B, tx, an, pl, c, h⟩
  have hW := h.1
  have hn := hW.1
  have hX := h.2.2.2.2.1
  have hY := h.2.2.2.2.2
  have hx1 : fNN_bits a0 a1 Mx = if zin a0 4 = true then fNN_bits_16 a0 a1 Mx else some (-1002, Mx) := by
    rw [fNN_bits, named_X, cl_some]
    by_cases h3 : zin a0 3 = true
    · have h4 : zin a0 4 = true := by
        obtain ⟨j, hj, e⟩ := zin_ex h3 (by decide)
        rw [e]
        exact zin_nI (by omega) (by decide)
      rw [h3, bI_t, if_pos (by decide), if_pos h4]
    · rw [Bool.eq_false_iff.mpr h3, bI_f, if_neg (not_not_intro rfl)]
      by_cases e3 : a0 = 3
      · rw [if_pos e3, if_pos (by rw [e3]; exact zin_nI (j := 3) (n := 4) (by decide) (by decide))]
      · rw [if_neg e3, if_neg]
        intro z
        obtain ⟨j, hj, e⟩ := zin_ex z (by decide)
        by_cases hj3 : j < 3
        · exact h3 (by rw [e]; exact zin_nI hj3 (by decide))
        · have : j = 3 := by omega
          rw [this] at e
          exact e3 e
  rcases zin3_cases a0 (n := 4) (by decide) with ⟨kd, hk, rfl, h0⟩ | h0
  · rw [if_pos h0] at hx1
    rcases zin3_cases a1 (n := 3) (by decide) with ⟨w, hw, rfl, h1⟩ | h1
    · have hb : ∀ p, p < n → bitN n E kd p < 200 := fun p hp => bitN_lt hW hk hp
      have hsum : ∀ k, k ≤ n → fb_sm (bitN n E kd) k ≤ k * 200 := fun k hk => fb_sm_bound (fun p hp => Nat.le_of_lt (hb p (by omega)))
      have hX2 : ∃ M2, fNN_bits_40 FU (nI kd) (nI w) (-1) 0 (-1) 0 Mx = some (if w = 0 then nI (bitN n E kd (gAm (bitN n E kd) n)) else if w = 1 then nI (fb_sm (bitN n E kd) n) else nI (gAm (bitN n E kd) n), M2) ∧ CX M2 n E ∧ fq zL Mx M2 := by
        refine lpE (f := fun fu k (s : Int32 × Int32) M => fNN_bits_40 fu (nI kd) (nI w) s.1 (nI (fb_sm (bitN n E kd) k)) s.2 (nI k) M) (n := n)
          (I := fun k s M' => NetX M' n E ∧ CX M' n E ∧ KX M' ∧ fq zL Mx M' ∧ (k = 0 → s = (-1, -1)) ∧ (0 < k → s = (nI (bitN n E kd (gAm (bitN n E kd) k)), nI (gAm (bitN n E kd) k))))
          (R := fun o => ∃ M2, o = some (if w = 0 then nI (bitN n E kd (gAm (bitN n E kd) n)) else if w = 1 then nI (fb_sm (bitN n E kd) n) else nI (gAm (bitN n E kd) n), M2) ∧ CX M2 n E ∧ fq zL Mx M2) ?_ ?_ 0 FU (-1, -1) Mx (by omega) (fu_ok (by omega)) ⟨hX.1, hX.2.1, hX.2.2.1, fq_rf, fun _ => rfl, fun z => by omega⟩
        · rintro fu ⟨s1, s2⟩ M' ⟨g1, g2, g3, g4, g5, g6⟩
          have g6 := g6 (by omega)
          rw [Prod.mk.injEq] at g6
          refine ⟨M', ?_, g2, g4⟩
          show fNN_bits_40 (fu + 1) (nI kd) (nI w) s1 _ s2 _ M' = _
          rw [fNN_bits_40, g1.1, if_pos (nI_le (by omega) (by omega)), g6.1, g6.2]
          obtain z | z | z : w = 0 ∨ w = 1 ∨ w = 2 := by omega
          · subst z
            rw [if_neg (show ¬ ¬ nI 0 = 0 from not_not_intro rfl), if_pos rfl]
          · subst z
            rw [if_pos (show ¬ nI 1 = 0 by decide), if_neg (show ¬ ¬ nI 1 = 1 from not_not_intro rfl), if_neg (by decide), if_pos rfl]
          · subst z
            rw [if_pos (show ¬ nI 2 = 0 by decide), if_pos (show ¬ nI 2 = 1 by decide), if_neg (by decide), if_neg (by decide)]
        · rintro fu k ⟨s1, s2⟩ M' hkn ⟨g1, g2, g3, g4, g5, g6⟩
          right
          obtain ⟨M2, b1, b2, b3, b4, b5⟩ := bits_X1 hW g1 g2 g3 hk hkn
          have hbk := hb k hkn
          have hsk := hsum k (by omega)
          have e1 : fNN_bits_40 (fu + 1) (nI kd) (nI w) s1 (nI (fb_sm (bitN n E kd) k)) s2 (nI k) M' = if nI (bitN n E kd k) ≤ s1 then fNN_bits_40 fu (nI kd) (nI w) s1 (nI (fb_sm (bitN n E kd) (k + 1))) s2 (nI (k + 1)) M2 else fNN_bits_40 fu (nI kd) (nI w) (nI (bitN n E kd k)) (nI (fb_sm (bitN n E kd) (k + 1))) (nI k) (nI (k + 1)) M2 := by
            rw [fNN_bits_40, g1.1, if_neg (nI_ge hkn (by omega)), b1, cl_some, lt_eq, nI_add, nI_1]
            rfl
          show ∃ s2_1 M2_1, fNN_bits_40 (fu + 1) (nI kd) (nI w) s1 (nI (fb_sm (bitN n E kd) k)) s2 (nI k) M' = _ ∧ _
          rw [e1]
          have f2 := fq_tr g4 b5
          by_cases hk0 : k = 0
          · have g5 := g5 hk0
            rw [Prod.mk.injEq] at g5
            rw [g5.1, if_neg (nI_lem (by omega))]
            refine ⟨(nI (bitN n E kd k), nI k), M2, rfl, b2, b3, b4, f2, fun z => by omega, fun _ => ?_⟩
            rw [hk0, gAm, gAm, if_pos (Nat.le_refl _)]
          · have g6 := g6 (by omega)
            rw [Prod.mk.injEq] at g6
            have hg := gAm_lt (f := bitN n E kd) k
            have hbg := hb (gAm (bitN n E kd) k) (by omega)
            rw [g6.1]
            by_cases hle : bitN n E kd k ≤ bitN n E kd (gAm (bitN n E kd) k)
            · rw [if_pos (nI_le hle (by omega))]
              exact ⟨(nI (bitN n E kd (gAm (bitN n E kd) k)), s2), M2, rfl, b2, b3, b4, f2, fun z => by omega, fun _ => by rw [gAm, if_pos hle, g6.2]⟩
            · rw [if_neg (nI_ge (by omega) (by omega))]
              exact ⟨(nI (bitN n E kd k), nI k), M2, rfl, b2, b3, b4, f2, fun z => by omega, fun _ => by rw [gAm, if_neg hle]⟩
      obtain ⟨M2, x1, x2, x3⟩ := hX2
      have hY2 : ∃ M3, fMd_findNames (nI kd) My = some ((), M3) ∧ (∀ p, p < n → fMd_bitsOf (nI kd) (nI p) M3 = some (nI (bitN n E kd p), M3)) ∧ M3 0 0 = nI n ∧ fq zY My M3 := by
        by_cases h3 : kd = 3
        · subst h3
          obtain ⟨M3, y1, y2, y3, y4⟩ := names3_Y hW hY.1
          have h00 := (fq_netY y4 hY.1 (fun k => by omega)).1
          refine ⟨M3, y1, fun p hp => ?_, h00, y4⟩
          rw [b2_all hn h00 hk (show p < 12 by omega) (y2 p (by omega)).1, if_pos rfl, y3.2.2.2, gTree_len hW]
          unfold bitN
          rw [if_pos rfl]
        · obtain ⟨M3, y1, y2, y3, y4⟩ := findNames_ok hW hY.1 (show kd < 3 by omega)
          have h00 := (fq_netY y4 hY.1 (fun k => by omega)).1
          refine ⟨M3, y1, fun p hp => ?_, h00, y4⟩
          rw [b2_all hn h00 hk (show p < 12 by omega) (y2 p (by omega)).1, if_neg h3]
          unfold bitN
          rw [if_neg h3]
      obtain ⟨M3, y1, y2, y3, y4⟩ := hY2
      refine ⟨if w = 0 then nI (bitN n E kd (gAm (bitN n E kd) n)) else if w = 1 then nI (fb_sm (bitN n E kd) n) else nI (gAm (bitN n E kd) n), M2, M3, ?_, ?_, Rl_rd h (zRd_of_zL x3) x2 y4⟩
      · show fNN_bits (nI kd) (nI w) Mx = _
        rw [hx1, fNN_bits_16, if_neg (nI_nlt0 (by omega)), if_pos (show nI w ≤ 2 from nI_le (b := 2) (by omega) (by omega)), x1]
      · show fMd_bits (nI kd) (nI w) My = _
        rw [fMd_bits, in03, cl_some, h0, bI_t, if_neg (by decide), named_Y, cl_some, h1, bI_t, if_pos (by decide), y1, cl_some]
        refine lpE (f := fun fu k (_ : Unit) M => fMd_bits_41 fu (nI kd) (nI w) (nI (fb_sm (bitN n E kd) k)) (nI (gAm (bitN n E kd) k)) (nI k) M) (n := n)
          (I := fun k _ M' => M' = M3)
          (R := fun o => o = some (if w = 0 then nI (bitN n E kd (gAm (bitN n E kd) n)) else if w = 1 then nI (fb_sm (bitN n E kd) n) else nI (gAm (bitN n E kd) n), M3)) ?_ ?_ 0 FU () M3 (by omega) (fu_ok (by omega)) rfl
        · rintro fu - M' rfl
          have hg := gAm_lt (f := bitN n E kd) n
          rw [fMd_bits_41, y3, if_pos (nI_le (by omega) (by omega)), y2 (gAm (bitN n E kd) n) (by omega), cl_some]
          obtain z | z | z : w = 0 ∨ w = 1 ∨ w = 2 := by omega
          · subst z
            rw [if_neg (show ¬ ¬ nI 0 = 0 from not_not_intro rfl), if_pos rfl]
          · subst z
            rw [if_pos (show ¬ nI 1 = 0 by decide), if_neg (show ¬ ¬ nI 1 = 1 from not_not_intro rfl), if_neg (by decide), if_pos rfl]
          · subst z
            rw [if_pos (show ¬ nI 2 = 0 by decide), if_pos (show ¬ nI 2 = 1 by decide), if_neg (by decide), if_neg (by decide)]
        · rintro fu k - M' hkn rfl
          right
          refine ⟨(), M', ?_, rfl⟩
          have hg := gAm_lt (f := bitN n E kd) k
          have hbk := hb k hkn
          have hbg := hb (gAm (bitN n E kd) k) (by omega)
          have e1 : fMd_bits_41 (fu + 1) (nI kd) (nI w) (nI (fb_sm (bitN n E kd) k)) (nI (gAm (bitN n E kd) k)) (nI k) M' = if nI (bitN n E kd k) ≤ nI (bitN n E kd (gAm (bitN n E kd) k)) then fMd_bits_41 fu (nI kd) (nI w) (nI (fb_sm (bitN n E kd) (k + 1))) (nI (gAm (bitN n E kd) k)) (nI (k + 1)) M' else fMd_bits_41 fu (nI kd) (nI w) (nI (fb_sm (bitN n E kd) (k + 1))) (nI k) (nI (k + 1)) M' := by
            rw [fMd_bits_41, y3, if_neg (nI_ge hkn (by omega)), y2 k hkn, cl_some, lt_eq, nI_add, y2 k hkn, cl_some, y2 (gAm (bitN n E kd) k) (by omega), cl_some, nI_1]
            rfl
          rw [e1, gAm]
          by_cases hle : bitN n E kd k ≤ bitN n E kd (gAm (bitN n E kd) k)
          · rw [if_pos (nI_le hle (by omega)), if_pos hle]
          · rw [if_neg (nI_ge (by omega) (by omega)), if_neg hle]
    · refine ⟨-1002, Mx, My, ?_, ?_, Rl_same h⟩
      · show fNN_bits (nI kd) a1 Mx = _
        rw [hx1, fNN_bits_16]
        by_cases c1 : a1 < 0
        · rw [if_pos c1]
        · rw [if_neg c1, if_neg]
          intro z
          obtain ⟨k, hk2, e⟩ := nI_of2 (M := 2) (n := 2) rfl c1 z
          rw [e, zin_nI (by omega) (by decide)] at h1
          cases h1
      · show fMd_bits (nI kd) a1 My = _
        rw [fMd_bits, in03, cl_some, h0, bI_t, if_neg (by decide), named_Y, cl_some, h1, bI_f, if_neg (not_not_intro rfl)]
  · refine ⟨-1002, Mx, My, ?_, ?_, Rl_same h⟩
    · show fNN_bits a0 a1 Mx = _
      rw [hx1, h0, if_neg (by decide)]
    · show fMd_bits a0 a1 My = _
      rw [fMd_bits, in03, cl_some, h0, bI_f, if_pos rfl]
