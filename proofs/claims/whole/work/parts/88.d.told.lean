/-! PURE: steps told and lines -/
theorem depth_X {M : zM} {n : Nat} {E : List (Nat × Nat)} (hW : gW n E) (hT : TX M n E) {p : Nat} (hp : p < n) : fTree_depth (nI p) M = some (nI (tD (gTree n E) p), M) := by
  have hn := hW.1.2
  rw [fTree_depth, rd_ok (show p < 12 by omega) (by decide), (hT.1.2.2.2.2.2 p (gTree_mem hp)).2.2, bitCount_ok (Nat.lt_trans (tA_lt hW p) (by decide)), cl_some, deep_pop hW _ p hp rfl]
theorem gSF_rank {n : Nat} {E : List (Nat × Nat)} {p : Nat} (hp : p < n) : ∃ i, i < n ∧ (gSF n E)[i]? = some p ∧ fb_ct (fun q => bfo E q p) n = i := by
  obtain ⟨i, hi⟩ := List.mem_iff_getElem?.mp (gSF_mem (E := E) hp)
  have hil : i < n := by
    have := (List.getElem?_eq_some_iff.mp hi).1
    rw [gSF_len] at this
    exact this
  exact ⟨i, hil, hi, rank_ct hil hi⟩
theorem st_told (a0 a1 : Int32) : zStep Rl (fun M => fNN_told a0 a1 M) (fun M => fMd_told a0 a1 M) := by
  rintro Mx My t ht ⟨n, E, B, tx, an, pl, c, h⟩
  have hW := h.1
  have hn := hW.1.2
  have hX := h.2.2.2.2.1
  have hY := h.2.2.2.2.2
  rcases zin3_cases a0 (n := n) (by omega) with ⟨p, hp, rfl, h0⟩ | h0
  · obtain ⟨M3, y1, y2, y3⟩ := findTree_q hW hY.1
    obtain ⟨M4, y4, y5, y6⟩ := turns_Y hW (InvY_rd hY y3).1
    have f4 : fq zY My M4 := fq_tr y3 (fq_mono y6 (fun c k h => by omega))
    obtain ⟨M5, y7, y8, y9⟩ := ranks_Y hW (InvY_rd hY f4).1
    have f5 : fq zY My M5 := fq_tr f4 (fq_mono y9 (fun c k h => by omega))
    have hN5 := (InvY_rd hY f5).1
    have hS5 : SY M5 n (gTree n E) := SY.fq (SY.fq y2 y6 (fun k => by omega)) y9 (fun k => by omega)
    have hT5 : M5 10 p = nI (gTu n E p) := by rw [y9 10 p (by omega)]; exact y5.2 _ _ (gTu_get hp)
    have hp12 : p < 12 := by omega
    have ey : ∀ r, zsw a1 0 [(rd M5 3 12 (nI p) fun x6 => some (x6, M5)), (rd M5 4 12 (nI p) fun x7 => some (x7, M5)), (cl (fMd_degree (nI p) M5) fun r9 M8 => some (r9, M8)), (rd M5 5 12 (nI p) fun x10 => some (x10, M5)), (rd M5 10 12 (nI p) fun x11 => some (x11, M5)), (rd M5 11 12 (nI p) fun x12 => some (x12, M5))] (some (-1002, M5)) = some (r, M5) → fMd_told (nI p) a1 My = some (r, M5) := fun r hr => by
      rw [fMd_told, noPost_ok hY.1 hW, cl_some, h0, Bool.not_true, bI_f, if_pos rfl, y1, cl_some, y4, cl_some, y7, cl_some]
      exact hr
    rcases zin3_cases a1 (n := 6) (by decide) with ⟨j, hj, rfl, h1⟩ | h1
    · obtain ⟨M2, x1, x2, x3, x4, x5⟩ := fresh_q hW hX.1 hX.2.1
      have g5 : fq zRd Mx M2 := fq_mono x5 (fun c k h => by omega)
      have ta := x2.1.2.2.2.2.2 p (gTree_mem hp)
      have sa := hS5.2.1 p (gTree_mem hp)
      have sr := hS5.1 p hp
      rw [if_pos (gTree_mem hp)] at sr
      have ex : ∀ {r : Option (Int32 × zM)}, _ := fun {r} (hr : _ = some r) => zsw_nI (α := Int32 × zM) (d := some (-1002, Mx)) (rs := [(cl (fTree_fresh Mx) fun r4 M3 => if r4 = 5 then (rd M3 6 12 (nI p) fun x5 => some (x5, M3)) else none), (cl (fTree_fresh Mx) fun r7 M6 => if r7 = 5 then (rd M6 7 12 (nI p) fun x8 => some (x8, M6)) else none), (cl (fNet_degree (nI p) Mx) fun r10 M9 => some (r10, M9)), (cl (fTree_fresh Mx) fun r12 M11 => if r12 = 5 then (cl (fTree_depth (nI p) M11) fun r14 M13 => some (r14, M13)) else none), (cl (fLabels_turnOf (nI p) Mx) fun r16 M15 => some (r16, M15)), (cl (fLabels_rankOf (nI p) Mx) fun r18 M17 => some (r18, M17))]) (j := j) (r := r) hr
      have e0 : fNN_told (nI p) (nI j) Mx = zsw (nI j) 0 [(cl (fTree_fresh Mx) fun r4 M3 => if r4 = 5 then (rd M3 6 12 (nI p) fun x5 => some (x5, M3)) else none), (cl (fTree_fresh Mx) fun r7 M6 => if r7 = 5 then (rd M6 7 12 (nI p) fun x8 => some (x8, M6)) else none), (cl (fNet_degree (nI p) Mx) fun r10 M9 => some (r10, M9)), (cl (fTree_fresh Mx) fun r12 M11 => if r12 = 5 then (cl (fTree_depth (nI p) M11) fun r14 M13 => some (r14, M13)) else none), (cl (fLabels_turnOf (nI p) Mx) fun r16 M15 => some (r16, M15)), (cl (fLabels_rankOf (nI p) Mx) fun r18 M17 => some (r18, M17))] (some (-1002, Mx)) := by
        rw [fNN_told, hasPost_ok hX.1 hW, cl_some, h0, bI_t, if_pos (by decide)]
      obtain z | z | z | z | z | z : j = 0 ∨ j = 1 ∨ j = 2 ∨ j = 3 ∨ j = 4 ∨ j = 5 := by omega
      · subst z
        refine ⟨oI (tP (gTree n E) p), M2, M5, ?_, ey _ ?_, Rl_rd h g5 x3 f5⟩
        · show fNN_told (nI p) (nI 0) Mx = _
          rw [e0, ex rfl, x1, cl_some, if_pos rfl, rd_ok hp12 (by decide), ta.1]
        · rw [zsw_nI (j := 0) rfl, rd_ok hp12 (by decide), sa.1]
      · subst z
        refine ⟨nI (tR (gTree n E) p), M2, M5, ?_, ey _ ?_, Rl_rd h g5 x3 f5⟩
        · show fNN_told (nI p) (nI 1) Mx = _
          rw [e0, ex rfl, x1, cl_some, if_pos rfl, rd_ok hp12 (by decide), ta.2.1]
        · rw [zsw_nI (j := 1) rfl, rd_ok hp12 (by decide), sr]
      · subst z
        refine ⟨nI (gD E p), Mx, M5, ?_, ey _ ?_, Rl_Y h f5⟩
        · show fNN_told (nI p) (nI 2) Mx = _
          rw [e0, ex rfl, degree_ok hX.1 hp12, cl_some]
        · rw [zsw_nI (j := 2) rfl, Md_degree_ok hN5 hW hp12, cl_some]
      · subst z
        refine ⟨nI (tD (gTree n E) p), M2, M5, ?_, ey _ ?_, Rl_rd h g5 x3 f5⟩
        · show fNN_told (nI p) (nI 3) Mx = _
          rw [e0, ex rfl, x1, cl_some, if_pos rfl, depth_X hW x2 hp, cl_some]
        · rw [zsw_nI (j := 3) rfl, rd_ok hp12 (by decide), sa.2.1]
      · subst z
        obtain ⟨M6, n1, n2, n3, n4, n5, n6⟩ := now_ok hW hX.1 hX.2.1 hX.2.2.1 (kd := 1) (by decide)
        refine ⟨nI (gTu n E p), M6, M5, ?_, ey _ ?_, Rl_rd h (zRd_of_zL n6) n3 f5⟩
        · show fNN_told (nI p) (nI 4) Mx = _
          rw [e0, ex rfl, fLabels_turnOf, qlit1, n1, cl_some, if_pos (zNb_row (kd := 1) (by decide)), rd_ok hp12 (by decide), (n2.2.2.1 rfl _ _ (gTu_get hp)).1, cl_some]
        · rw [zsw_nI (j := 4) rfl, rd_ok hp12 (by decide), hT5]
      · subst z
        obtain ⟨M6, n1, n2, n3, n4, n5, n6⟩ := now_ok hW hX.1 hX.2.1 hX.2.2.1 (kd := 2) (by decide)
        obtain ⟨i, i1, i2, i3⟩ := gSF_rank (E := E) hp
        refine ⟨nI i, M6, M5, ?_, ey _ ?_, Rl_rd h (zRd_of_zL n6) n3 f5⟩
        · show fNN_told (nI p) (nI 5) Mx = _
          rw [e0, ex rfl, fLabels_rankOf, qlit2, n1, cl_some, if_pos (zNb_row (kd := 2) (by decide)), rd_ok hp12 (by decide), (n2.2.2.2 rfl _ _ i2).1, cl_some]
        · rw [zsw_nI (j := 5) rfl, rd_ok hp12 (by decide), y8 p hp, i3]
    · refine ⟨-1002, Mx, M5, ?_, ey _ ?_, Rl_Y h f5⟩
      · show fNN_told (nI p) a1 Mx = _
        rw [fNN_told, hasPost_ok hX.1 hW, cl_some, h0, bI_t, if_pos (by decide)]
        exact zsw_def _ 0 (fun j hj => not_small (k := 6) (by decide) h1 j hj)
      · exact zsw_def _ 0 (fun j hj => not_small (k := 6) (by decide) h1 j hj)
  · refine ⟨-1001, Mx, My, ?_, ?_, Rl_same h⟩
    · show fNN_told a0 a1 Mx = _
      rw [fNN_told, hasPost_ok hX.1 hW, cl_some, h0, bI_f, if_neg (not_not_intro rfl)]
    · show fMd_told a0 a1 My = _
      rw [fMd_told, noPost_ok hY.1 hW, cl_some, h0, Bool.not_false, bI_t, if_neg (by decide)]
theorem st_lines (a0 a1 : Int32) : zStep Rl (fun M => fNN_lines a0 a1 M) (fun M => fMd_lines a0 a1 M) := by
  rintro Mx My t ht ⟨n, E, B, tx, an, pl, c, h⟩
  have hW := h.1
  have hn := hW.1.2
  have hl30 := hW.2.1
  have hX := h.2.2.2.2.1
  have hY := h.2.2.2.2.2
  rcases zin3_cases a0 (n := E.length) (by omega) with ⟨l, hl, rfl, h0⟩ | h0
  · obtain ⟨M3, y1, y2, y3⟩ := findTree_q hW hY.1
    have hN3 := (InvY_rd hY y3).1
    have hl2 : l < 30 := by omega
    obtain ⟨e, he⟩ : ∃ e, E[l]? = some e := ⟨_, List.getElem?_eq_getElem hl⟩
    have ey : ∀ r, zsw a1 0 [(rd M3 1 30 (nI l) fun x4 => some (x4, M3)), (rd M3 2 30 (nI l) fun x5 => some (x5, M3)), (cl (fMd_isTreeLine (nI l) M3) fun r7 M6 => cl (fMd_bit r7 M6) fun r9 M8 => some (r9, M8)), (cl (fMd_lineName (nI l) M3) fun r11 M10 => some (r11, M10))] (some (-1002, M3)) = some (r, M3) → fMd_lines (nI l) a1 My = some (r, M3) := fun r hr => by
      rw [fMd_lines, noLine_ok hY.1 hW, cl_some, h0, Bool.not_true, bI_f, if_pos rfl, y1, cl_some]
      exact hr
    have hT := gTree_W hW
    have hall : ∀ q, q < n → q ∈ tO (gTree n E) := fun q hq => gTree_mem hq
    rcases zin3_cases a1 (n := 4) (by decide) with ⟨j, hj, rfl, h1⟩ | h1
    · obtain ⟨M2, x1, x2, x3, x4, x5⟩ := fresh_q hW hX.1 hX.2.1
      have g5 : fq zRd Mx M2 := fq_mono x5 (fun c k h => by omega)
      have e0 : fNN_lines (nI l) (nI j) Mx = zsw (nI j) 0 [(rd Mx 2 30 (nI l) fun x3 => some (x3, Mx)), (rd Mx 3 30 (nI l) fun x4 => some (x4, Mx)), (cl (fTree_fresh Mx) fun r6 M5 => if r6 = 5 then (some (((zshr (M5 5 2) (nI l)) &&& 1), M5)) else none), (cl (fTree_fresh Mx) fun r8 M7 => if r8 = 5 then (rd M7 11 30 (nI l) fun x9 => some (x9, M7)) else none)] (some (-1002, Mx)) := by
        rw [fNN_lines, hasLine_ok hX.1 hW, cl_some, h0, bI_t, if_pos (by decide)]
      obtain z | z | z | z : j = 0 ∨ j = 1 ∨ j = 2 ∨ j = 3 := by omega
      · subst z
        refine ⟨nI e.1, Mx, M3, ?_, ey _ ?_, Rl_Y h y3⟩
        · show fNN_lines (nI l) (nI 0) Mx = _
          rw [e0, zsw_nI (j := 0) rfl, rd_ok hl2 (by decide), (hX.1.2.2.1 l e he).1]
        · rw [zsw_nI (j := 0) rfl, rd_ok hl2 (by decide), (hN3.2.2 l e he).1]
      · subst z
        refine ⟨nI e.2, Mx, M3, ?_, ey _ ?_, Rl_Y h y3⟩
        · show fNN_lines (nI l) (nI 1) Mx = _
          rw [e0, zsw_nI (j := 1) rfl, rd_ok hl2 (by decide), (hX.1.2.2.1 l e he).2]
        · rw [zsw_nI (j := 1) rfl, rd_ok hl2 (by decide), (hN3.2.2 l e he).2]
      · subst z
        refine ⟨bI (own (gTree n E) l), M2, M3, ?_, ey _ ?_, Rl_rd h g5 x3 y3⟩
        · show fNN_lines (nI l) (nI 2) Mx = _
          rw [e0, zsw_nI (j := 2) rfl, x1, cl_some, if_pos rfl, x2.1.2.2.2.1, zbit (Nat.lt_trans (mkM_lt _ _) (by decide)) (by omega), mkM_bit, decide_eq_true hl2, Bool.true_and]
          rfl
        · rw [zsw_nI (j := 2) rfl, isTree_ok hW hN3 hT hall (gTree_C n E) y2 hl2, cl_some, bit_ok, cl_some]
      · subst z
        refine ⟨nI (gLN E (gTree n E) l), M2, M3, ?_, ey _ ?_, Rl_rd h g5 x3 y3⟩
        · show fNN_lines (nI l) (nI 3) Mx = _
          rw [e0, zsw_nI (j := 3) rfl, x1, cl_some, if_pos rfl, rd_ok hl2 (by decide), x2.2.2 l hl]
        · rw [zsw_nI (j := 3) rfl, lineName_ok hW hN3 hT hall (gTree_C n E) y2 hl2, cl_some]
    · refine ⟨-1002, Mx, M3, ?_, ey _ ?_, Rl_Y h y3⟩
      · show fNN_lines (nI l) a1 Mx = _
        rw [fNN_lines, hasLine_ok hX.1 hW, cl_some, h0, bI_t, if_pos (by decide)]
        exact zsw_def _ 0 (fun j hj => not_small (k := 4) (by decide) h1 j hj)
      · exact zsw_def _ 0 (fun j hj => not_small (k := 4) (by decide) h1 j hj)
  · refine ⟨-1001, Mx, My, ?_, ?_, Rl_same h⟩
    · show fNN_lines a0 a1 Mx = _
      rw [fNN_lines, hasLine_ok hX.1 hW, cl_some, h0, bI_f, if_neg (not_not_intro rfl)]
    · show fMd_lines a0 a1 My = _
      rw [fMd_lines, noLine_ok hY.1 hW, cl_some, h0, Bool.not_false, bI_t, if_neg (by decide)]
