/-! PURE: the steps that change the net -/
theorem tk_ne {x : Int32} {c : Nat} (h : tk x c) (hc : c < 1000) : ¬ x = nI (c + 1) := by
  rcases h with h | ⟨k, h1, h2⟩
  · rw [h]
    exact m1_eq (by omega)
  · rw [h2]
    intro z
    have := (nI_eq (by omega) (by omega)).mp z
    omega
theorem tk_up {x : Int32} {c : Nat} (h : tk x c) : tk x (c + 1) := by
  rcases h with h | ⟨k, h1, h2⟩
  · exact Or.inl h
  · exact Or.inr ⟨k, by omega, h2⟩
theorem app_getG {α : Type} {l : List α} {x e : α} {i : Nat} (h : (l ++ [x])[i]? = some e) : (i < l.length ∧ l[i]? = some e) ∨ (i = l.length ∧ e = x) := by
  by_cases hi : i < l.length
  · rw [List.getElem?_append_left hi] at h
    exact Or.inl ⟨hi, h⟩
  · rw [List.getElem?_append_right (by omega)] at h
    have h1 := (List.getElem?_eq_some_iff.mp h).1
    simp at h1
    have h2 : i - l.length = 0 := by omega
    rw [h2] at h
    exact Or.inr ⟨by omega, (Option.some.inj h).symm⟩
section stN
variable {Mx My Mx2 My2 : zM} {t n n2 : Nat} {E E2 : List (Nat × Nat)} {B : bkT} {tx : List Nat} {an : List Int32} {pl : Int32} {c : Nat}
theorem InvX_ch (h : InvX Mx n E B tx an pl c) (hc : c < 900) (hf : fq (fun c _ => 1 ≤ c ∧ c ≤ 4) Mx Mx2) (hN : NetX Mx2 n2 E2) (h12 : Mx2 1 2 = Mx 1 2 + 1) : InvX Mx2 n2 E2 B tx an pl (c + 1) := by
  obtain ⟨h1, h2, h3, h4, h5, h6, h7, h8⟩ := h
  have e : Mx2 1 2 = nI (c + 1) := by rw [h12, h4, nI_1]
  obtain ⟨c0, t1, t2, t3, t4⟩ := h2.2.2
  have hcc : c0 = c := by
    rw [h4] at t1
    exact ((nI_eq (by omega) (by omega)).mp t1).symm
  subst hcc
  refine ⟨hN, ⟨fun z => ?_, fun kd hk z => ?_, ⟨c0 + 1, e, by omega, ?_, fun kd hk => ?_⟩⟩, h3.fq hf (fun c k _ _ => by omega), e, fun z => ?_, ?_, BX_fq h7 hf (fun c k _ _ => by omega), scX_fq h8 hf (fun k => by omega)⟩
  · rw [hf 5 13 (by omega), e] at z
    exact absurd z (tk_ne t3 (by omega))
  · rw [hf 16 kd (by omega), e] at z
    exact absurd z (tk_ne (t4 kd hk) (by omega))
  · rw [hf 5 13 (by omega)]
    exact tk_up t3
  · rw [hf 16 kd (by omega)]
    exact tk_up (t4 kd hk)
  · rw [hf 48 7 (by omega), e] at z
    exact absurd z (tk_ne h6 (by omega))
  · rw [hf 48 7 (by omega)]
    exact tk_up h6
theorem InvY_ch (h : InvY My n E B tx an pl) (hf : fq (fun c k => (c = 0 ∧ k < 2) ∨ c = 1 ∨ c = 2) My My2) (hN : NetY My2 n2 E2) : InvY My2 n2 E2 B tx an pl := ⟨hN, BY_fq h.2.1 hf (fun c k _ _ => by omega), scY_fq h.2.2 hf (fun k => by omega)⟩
theorem Rl_ch (h : RlW Mx My t n E B tx an pl c) (ht : t < 512) (hW : gW n2 E2) (hf : fq (fun c _ => 1 ≤ c ∧ c ≤ 4) Mx Mx2) (hN : NetX Mx2 n2 E2) (h12 : Mx2 1 2 = Mx 1 2 + 1) (hg : fq (fun c k => (c = 0 ∧ k < 2) ∨ c = 1 ∨ c = 2) My My2) (hN2 : NetY My2 n2 E2) : Rl Mx2 My2 (t + 1) := by
  obtain ⟨h1, h2, h3, h4, h5, h6⟩ := h
  exact ⟨n2, E2, B, tx, an, pl, c + 1, hW, by omega, h3, h4, InvX_ch h5 (by omega) hf hN h12, InvY_ch h6 hg hN2⟩
end stN
theorem st_net (a0 : Int32) : zStep Rl (fun M => fNN_net a0 M) (fun M => fMd_net a0 M) := by
  rintro Mx My t ht ⟨n, E, B, tx, an, pl, c, h⟩
  have hy : fMd_net a0 My = if ¬ bI (decide (1 ≤ a0) && decide (a0 ≤ 12)) = 0 then some (1, zs (zs My 0 0 a0) 0 1 0) else some (-1002, My) := by
    rw [fMd_net, show (1 : Int64) = (1 : Int32).toInt64 from rfl, show (12 : Int64) = (12 : Int32).toInt64 from rfl, in_I, cl_some]
    rfl
  by_cases h1 : a0 < 1
  · refine ⟨-1002, Mx, My, ?_, ?_, Rl_same h⟩
    · show fNN_net a0 Mx = _
      rw [fNN_net, if_pos h1]
    · show fMd_net a0 My = _
      rw [hy, decide_eq_false (fa_of_lt h1).2.1, Bool.false_and, bI_f, if_neg (not_not_intro rfl)]
  · have h1' : (1 : Int32) ≤ a0 := fa_of_nlt h1
    by_cases h2 : a0 ≤ 12
    · obtain ⟨k, hk, rfl⟩ : ∃ k : Nat, k ≤ 12 ∧ a0 = nI k := nI_of2 (M := 12) rfl (fun z => by
        rw [fa_lt] at z h1
        have : (0 : Int32).toInt = 0 := by decide
        have : (1 : Int32).toInt = 1 := by decide
        omega) h2
      have hk1 : 1 ≤ k := by
        rcases Nat.eq_zero_or_pos k with z | z
        · rw [z] at h1
          exact absurd (show nI 0 < 1 by decide) h1
        · exact z
      obtain ⟨M2, b1, b2, b3, b4⟩ := begin_ok (M := Mx) hk
      refine ⟨1, M2, zs (zs My 0 0 (nI k)) 0 1 0, ?_, ?_, Rl_ch h ht (gW_nil ⟨hk1, hk⟩) (fq_fr b4 (fun c k hc => by simp; omega)) b2 b3 (fq_zs (fq_zs fq_rf (by omega)) (by omega)) ?_⟩
      · show fNN_net (nI k) Mx = _
        rw [fNN_net, if_neg h1, if_pos h2, b1, cl_some]
      · show fMd_net (nI k) My = _
        rw [hy, decide_eq_true h1', decide_eq_true h2, if_pos (by decide)]
      · exact ⟨by rw [zs_ne (by omega), zs_eq], zs_eq, fun i e he => (by cases he)⟩
    · refine ⟨-1002, Mx, My, ?_, ?_, Rl_same h⟩
      · show fNN_net a0 Mx = _
        rw [fNN_net, if_neg h1, if_neg h2]
      · show fMd_net a0 My = _
        rw [hy, decide_eq_false h2, Bool.and_false, bI_f, if_neg (not_not_intro rfl)]
theorem gW_post {n : Nat} {E : List (Nat × Nat)} (hW : gW n E) (h : n < 12) : gW (n + 1) E := ⟨by have := hW.1; omega, hW.2.1, fun e he => by have := hW.2.2.1 e he; exact ⟨by omega, by omega, this.2.2⟩, hW.2.2.2⟩
theorem st_post : zStep Rl (fun M => fNN_post M) (fun M => fMd_post M) := by
  rintro Mx My t ht ⟨n, E, B, tx, an, pl, c, h⟩
  have hW := h.1
  have hn := hW.1.2
  have hX := h.2.2.2.2.1.1
  have hY := h.2.2.2.2.2.1
  by_cases h1 : n < 12
  · obtain ⟨M2, b1, b2, b3, b4⟩ := addPost_ok hX hW
    refine ⟨nI n, M2, zs My 0 0 (nI (n + 1)), ?_, ?_, Rl_ch h ht (gW_post hW h1) (fq_fr b4 (fun c k hc => by simp; omega)) b2 b3 (fq_zs fq_rf (by omega)) ?_⟩
    · show fNN_post Mx = _
      rw [fNN_post, hX.1, if_pos (show nI n < 12 from nI_lt (b := 12) h1 (by omega)), b1, cl_some]
    · show fMd_post My = _
      rw [fMd_post, hY.1, if_pos (fun z => by have := (nI_eq (a := n) (b := 12) (by omega) (by omega)).mp z; omega), wf_eq, zs_eq, nI_1, nI_pred]
    · exact ⟨zs_eq, by rw [zs_nk (by decide)]; exact hY.2.1, fun i e he => by rw [zs_nc (by decide), zs_nc (by decide)]; exact hY.2.2 i e he⟩
  · have h12 : n = 12 := by omega
    refine ⟨-1004, Mx, My, ?_, ?_, Rl_same h⟩
    · show fNN_post Mx = _
      rw [fNN_post, hX.1, h12, if_neg (by decide)]
    · show fMd_post My = _
      rw [fMd_post, hY.1, h12, if_neg (by decide)]
theorem st_line (a0 a1 : Int32) : zStep Rl (fun M => fNN_line a0 a1 M) (fun M => fMd_line a0 a1 M) := by
  rintro Mx My t ht ⟨n, E, B, tx, an, pl, c, h⟩
  have hW := h.1
  have hn := hW.1.2
  have hl := hW.2.1
  have hX := h.2.2.2.2.1.1
  have hY := h.2.2.2.2.2.1
  have ex : fNN_line a0 a1 Mx = if ¬ bI (zin a0 n && zin a1 n) = 0 then (if ¬ a0 = a1 then cl (fNet_joins a0 a1 Mx) fun r4 M3 => if r4 = 0 then (if (M3 1 1) < 30 then cl (fNet_addLine a0 a1 M3) fun r6 M5 => some (r6, M5) else some (-1004, M3)) else some (-1003, M3) else some (-1002, Mx)) else some (-1001, Mx) := by
    rw [fNN_line, hasPosts_ok hX hW, cl_some]
  by_cases h1 : zin a0 n = true
  · by_cases h2 : zin a1 n = true
    · obtain ⟨a, ha, rfl⟩ := zin_ex h1 (by omega)
      obtain ⟨b, hb, rfl⟩ := zin_ex h2 (by omega)
      have ey : fMd_line (nI a) (nI b) My = if ¬ nI a = nI b then (if gX E a b < 0 then (if ¬ (My 0 1) = 30 then (wr My 1 30 (My 0 1) (nI a) fun M7 => wr M7 2 30 (M7 0 1) (nI b) fun M8 => wf M8 0 1 ((M8 0 1) + 1) fun M9 => some (((M9 0 1) - 1), M9)) else some (-1004, My)) else some (-1003, My)) else some (-1002, My) := by
        rw [fMd_line, noPost_ok hY hW, cl_some, h1, Bool.not_true, bI_f, if_neg (not_not_intro rfl), noPost_ok hY hW, cl_some, h2, Bool.not_true, bI_f, if_pos rfl, Md_lineOf_ok hY hW (by omega) (by omega), cl_some]
      rw [h1, h2, Bool.and_true, bI_t, if_pos (by decide)] at ex
      by_cases hab : a = b
      · subst hab
        refine ⟨-1002, Mx, My, ?_, ?_, Rl_same h⟩
        · show fNN_line (nI a) (nI a) Mx = _
          rw [ex, if_neg (not_not_intro rfl)]
        · show fMd_line (nI a) (nI a) My = _
          rw [ey, if_neg (not_not_intro rfl)]
      · have hne : ¬ nI a = nI b := fun z => hab ((nI_eq (by omega) (by omega)).mp z)
        rw [if_pos hne, joins_ok hX (by omega) (by omega), cl_some] at ex
        rw [if_pos hne] at ey
        cases hg : gA E a b with
        | true =>
          refine ⟨-1003, Mx, My, ?_, ?_, Rl_same h⟩
          · show fNN_line (nI a) (nI b) Mx = _
            rw [ex, hg, bI_t, if_neg (by decide)]
          · show fMd_line (nI a) (nI b) My = _
            rw [ey, if_neg (by rw [gX_neg hW, hg]; decide)]
        | false =>
          rw [hg, bI_f, if_pos rfl, hX.2.1] at ex
          rw [if_pos ((gX_neg hW a b).mpr hg), hY.2.1] at ey
          by_cases h30 : E.length < 30
          · obtain ⟨M2, b1, b2, b3, b4⟩ := addLine_ok hX hW ha hb hab h30
            refine ⟨nI E.length, M2, zs (zs (zs My 1 E.length (nI a)) 2 E.length (nI b)) 0 1 (nI (E.length + 1)), ?_, ?_, Rl_ch h ht (gW_add hW ha hb hab hg h30) (fq_fr b4 (fun c k hc => by simp; omega)) b2 b3 (fq_zs (fq_zs (fq_zs fq_rf (by omega)) (by omega)) (by omega)) ?_⟩
            · show fNN_line (nI a) (nI b) Mx = _
              rw [ex, if_pos (show nI E.length < 30 from nI_lt (b := 30) h30 (by omega)), b1, cl_some]
            · show fMd_line (nI a) (nI b) My = _
              rw [ey, if_pos (fun z => by have := (nI_eq (a := E.length) (b := 30) (by omega) (by omega)).mp z; omega), wr_ok h30 (by decide), zs_nc (by decide), hY.2.1, wr_ok h30 (by decide), wf_eq, zs_eq, zs_nc (by decide), zs_nc (by decide), hY.2.1, nI_1, nI_pred]
            · refine ⟨by rw [zs_nk (by decide), zs_nc (by decide), zs_nc (by decide)]; exact hY.1, by rw [zs_eq, List.length_append]; rfl, fun i e he => ?_⟩
              rw [zs_nc (show ¬ 1 = 0 by decide), zs_nc (show ¬ 2 = 0 by decide), zs_nc (show ¬ 1 = 2 by decide)]
              rcases app_getG he with ⟨g1, g2⟩ | ⟨g1, g2⟩
              · rw [zs_nk (by omega), zs_nk (by omega), zs_nc (by decide)]
                exact hY.2.2 i e g2
              · rw [g1, g2, zs_eq, zs_eq]
                exact ⟨rfl, rfl⟩
          · have e30 : E.length = 30 := by omega
            refine ⟨-1004, Mx, My, ?_, ?_, Rl_same h⟩
            · show fNN_line (nI a) (nI b) Mx = _
              rw [ex, e30, if_neg (by decide)]
            · show fMd_line (nI a) (nI b) My = _
              rw [ey, e30, if_neg (by decide)]
    · refine ⟨-1001, Mx, My, ?_, ?_, Rl_same h⟩
      · show fNN_line a0 a1 Mx = _
        rw [ex, Bool.eq_false_iff.mpr h2, Bool.and_false, bI_f, if_neg (not_not_intro rfl)]
      · show fMd_line a0 a1 My = _
        rw [fMd_line, noPost_ok hY hW, cl_some, h1, Bool.not_true, bI_f, if_neg (not_not_intro rfl), noPost_ok hY hW, cl_some, Bool.eq_false_iff.mpr h2, Bool.not_false, bI_t, if_neg (by decide)]
  · refine ⟨-1001, Mx, My, ?_, ?_, Rl_same h⟩
    · show fNN_line a0 a1 Mx = _
      rw [ex, Bool.eq_false_iff.mpr h1, Bool.false_and, bI_f, if_neg (not_not_intro rfl)]
    · show fMd_line a0 a1 My = _
      rw [fMd_line, noPost_ok hY hW, cl_some, Bool.eq_false_iff.mpr h1, Bool.not_false, bI_t, if_pos (by decide)]
theorem st_strike (a0 : Int32) : zStep Rl (fun M => fNN_strike a0 M) (fun M => fMd_strike a0 M) := by
  rintro Mx My t ht ⟨n, E, B, tx, an, pl, c, h⟩
  have hW := h.1
  have hl := hW.2.1
  have hX := h.2.2.2.2.1.1
  have hY := h.2.2.2.2.2.1
  by_cases h1 : zin a0 E.length = true
  · obtain ⟨l, hll, rfl⟩ := zin_ex h1 (by omega)
    obtain ⟨M2, b1, b2, b3, b4⟩ := removeLine_ok hX hW hll
    obtain ⟨M3, c1, c2, c3⟩ := shiftY_loop (len := E.length - 1) (by omega) (E.length - 1 - l) l FU (zs My 0 1 (nI (E.length - 1))) zs_eq rfl (by omega) (fu_ok (by omega))
    have he := erase_len hll
    refine ⟨nI (E.length - 1), M2, M3, ?_, ?_, Rl_ch h ht (gW_erase hW l) (fq_fr b4 (fun c k hc => by simp; omega)) b2 b3 (fq_tr (fq_zs fq_rf (show (0 = 0 ∧ 1 < 2) ∨ 0 = 1 ∨ 0 = 2 by omega)) (fun c k hc => c3 c k (by omega))) ?_⟩
    · show fNN_strike (nI l) Mx = _
      rw [fNN_strike, hasLine_ok hX hW, cl_some, h1, bI_t, if_pos (by decide), b1, cl_some, b2.2.1, he]
    · show fMd_strike (nI l) My = _
      rw [fMd_strike, noLine_ok hY hW, cl_some, h1, Bool.not_true, bI_f, if_pos rfl, hY.2.1, wf_eq, show nI E.length - 1 = nI (E.length - 1) from pk_sub (b := 1) (by omega), c1]
    · refine ⟨by rw [c3 0 0 (by omega), zs_nk (by decide)]; exact hY.1, by rw [c3 0 1 (by omega), zs_eq, he], fun i e hie => ?_⟩
      have hil := (List.getElem?_eq_some_iff.mp hie).1
      rw [he] at hil
      rw [erase_get] at hie
      by_cases hi : i < l
      · rw [if_pos hi] at hie
        rw [c3 1 i (by omega), c3 2 i (by omega), zs_nc (by decide), zs_nc (by decide)]
        exact hY.2.2 i e hie
      · rw [if_neg hi] at hie
        have := c2 i (by omega) hil
        rw [this.1, this.2, zs_nc (by decide), zs_nc (by decide)]
        exact hY.2.2 (i + 1) e hie
  · refine ⟨-1001, Mx, My, ?_, ?_, Rl_same h⟩
    · show fNN_strike a0 Mx = _
      rw [fNN_strike, hasLine_ok hX hW, cl_some, Bool.eq_false_iff.mpr h1, bI_f, if_neg (not_not_intro rfl)]
    · show fMd_strike a0 My = _
      rw [fMd_strike, noLine_ok hY hW, cl_some, Bool.eq_false_iff.mpr h1, Bool.not_false, bI_t, if_neg (by decide)]
