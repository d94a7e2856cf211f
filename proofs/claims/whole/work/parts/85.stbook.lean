/-! PURE: steps of names and of the book -/
theorem zRd_of_zL {M M2 : zM} (h : fq zL M M2) : fq zRd M M2 := fq_mono h (fun c k h => Or.inl h)
theorem two_bad {b1 b2 : Bool} (h : ¬ (b1 = true ∧ b2 = true)) : (b1 && b2) = false := by
  cases b1 <;> cases b2 <;> simp at h ⊢
/-- what ask answers, both sides -/
theorem ask_X {M : zM} {n : Nat} {E : List (Nat × Nat)} (hW : gW n E) (hN : NetX M n E) (hC : CX M n E) (hK : KX M) {kd a b : Nat} (hk : kd < 3) (ha : a < n) (hb : b < n) :
    ∃ M2, (cl (fLabels_now (nI kd) M) fun r6 M5 => if zNb r6 = true then (cl (fNames_reply r6 (nI a) (nI b) M5) fun r8 M7 => some (r8, M7)) else none) = some (rep kd (nmK n E kd a) (nmK n E kd b), M2) ∧ CX M2 n E ∧ fq zL M M2 := by
  have hn := hW.1.2
  obtain ⟨M2, a1, a2, a3, a4, a5, a6⟩ := now_ok hW hN hC hK hk
  refine ⟨M2, ?_, a3, a6⟩
  rw [a1, cl_some, if_pos (zNb_row hk), reply_X hk (a4 kd hk).1 a2.1 (zl_row hk) (by omega) (by omega) (nmK_shp hW hk ha) (nmK_shp hW hk hb), cl_some]
theorem ask_Y {M : zM} {n : Nat} {E : List (Nat × Nat)} (hW : gW n E) (hN : NetY M n E) {kd a b : Nat} (hk : kd < 3) (ha : a < n) (hb : b < n) :
    ∃ M2, (cl (fMd_findNames (nI kd) M) fun _ M7 => cl (fMd_sayOf (nI kd) (nI a) (nI b) M7) fun r9 M8 => some (r9, M8)) = some (rep kd (nmK n E kd a) (nmK n E kd b), M2) ∧ fq zY M M2 := by
  have hn := hW.1.2
  obtain ⟨M2, a1, a2, a3, a4⟩ := findNames_ok hW hN hk
  refine ⟨M2, ?_, a4⟩
  rw [a1, cl_some, say_Y hk (a2 a (by omega)) (a2 b (by omega)) (by omega) (by omega) (nmK_shp hW hk ha) (nmK_shp hW hk hb) (fun z => by rw [z]), cl_some]
theorem askY_ok {M : zM} {n : Nat} {E : List (Nat × Nat)} (hW : gW n E) (hN : NetY M n E) {kd a b : Nat} (hk : kd < 3) (ha : a < n) (hb : b < n) :
    ∃ M2, fMd_ask (nI kd) (nI a) (nI b) M = some (rep kd (nmK n E kd a) (nmK n E kd b), M2) ∧ fq zY M M2 := by
  have hn := hW.1.2
  obtain ⟨M2, a1, a2⟩ := ask_Y hW hN hk ha hb
  refine ⟨M2, ?_, a2⟩
  rw [fMd_ask, noPost_ok hN hW, cl_some, zin_nI ha (by omega), Bool.not_true, bI_f, if_neg (not_not_intro rfl), noPost_ok hN hW, cl_some, zin_nI hb (by omega), Bool.not_true, bI_f, if_pos rfl, named_Y, cl_some, zin_nI hk (by decide), bI_t, if_pos (by decide)]
  exact a1
theorem st_ask (a0 a1 a2 : Int32) : zStep Rl (fun M => fNN_ask a0 a1 a2 M) (fun M => fMd_ask a0 a1 a2 M) := by
  rintro Mx My t ht ⟨n, E, B, tx, an, pl, c, h⟩
  have hW := h.1
  have hn := hW.1.2
  have hX := h.2.2.2.2.1
  have hY := h.2.2.2.2.2.1
  by_cases h1 : zin a1 n = true
  · by_cases h2 : zin a2 n = true
    · by_cases h3 : zin a0 3 = true
      · obtain ⟨a, ha, rfl⟩ := zin_ex h1 (by omega)
        obtain ⟨b, hb, rfl⟩ := zin_ex h2 (by omega)
        obtain ⟨kd, hk, rfl⟩ := zin_ex h3 (by omega)
        obtain ⟨M2, x1, x2, x3⟩ := ask_X hW hX.1 hX.2.1 hX.2.2.1 hk ha hb
        obtain ⟨M3, y1, y2⟩ := askY_ok hW hY hk ha hb
        refine ⟨_, M2, M3, ?_, y1, Rl_rd h (zRd_of_zL x3) x2 y2⟩
        show fNN_ask (nI kd) (nI a) (nI b) Mx = _
        rw [fNN_ask, hasPosts_ok hX.1 hW, cl_some, h1, h2, Bool.and_true, bI_t, if_pos (by decide), named_X, cl_some, h3, bI_t, if_pos (by decide)]
        exact x1
      · refine ⟨-1002, Mx, My, ?_, ?_, Rl_same h⟩
        · show fNN_ask a0 a1 a2 Mx = _
          rw [fNN_ask, hasPosts_ok hX.1 hW, cl_some, h1, h2, Bool.and_true, bI_t, if_pos (by decide), named_X, cl_some, Bool.eq_false_iff.mpr h3, bI_f, if_neg (not_not_intro rfl)]
        · show fMd_ask a0 a1 a2 My = _
          rw [fMd_ask, noPost_ok hY hW, cl_some, h1, Bool.not_true, bI_f, if_neg (not_not_intro rfl), noPost_ok hY hW, cl_some, h2, Bool.not_true, bI_f, if_pos rfl, named_Y, cl_some, Bool.eq_false_iff.mpr h3, bI_f, if_neg (not_not_intro rfl)]
    · refine ⟨-1001, Mx, My, ?_, ?_, Rl_same h⟩
      · show fNN_ask a0 a1 a2 Mx = _
        rw [fNN_ask, hasPosts_ok hX.1 hW, cl_some, Bool.eq_false_iff.mpr h2, Bool.and_false, bI_f, if_neg (not_not_intro rfl)]
      · show fMd_ask a0 a1 a2 My = _
        rw [fMd_ask, noPost_ok hY hW, cl_some, h1, Bool.not_true, bI_f, if_neg (not_not_intro rfl), noPost_ok hY hW, cl_some, Bool.eq_false_iff.mpr h2, Bool.not_false, bI_t, if_neg (by decide)]
  · refine ⟨-1001, Mx, My, ?_, ?_, Rl_same h⟩
    · show fNN_ask a0 a1 a2 Mx = _
      rw [fNN_ask, hasPosts_ok hX.1 hW, cl_some, Bool.eq_false_iff.mpr h1, Bool.false_and, bI_f, if_neg (not_not_intro rfl)]
    · show fMd_ask a0 a1 a2 My = _
      rw [fMd_ask, noPost_ok hY hW, cl_some, Bool.eq_false_iff.mpr h1, Bool.not_false, bI_t, if_pos (by decide)]
theorem st_stale (a0 : Int32) : zStep Rl (fun M => fNN_stale a0 M) (fun M => fMd_stale a0 M) := by
  rintro Mx My t ht ⟨n, E, B, tx, an, pl, c, h⟩
  have hW := h.1
  have hn := hW.1.2
  have hO := h.2.2.1
  have hX := h.2.2.2.2.1
  have hBX := hX.2.2.2.2.2.2.1
  have hY := h.2.2.2.2.2
  by_cases h3 : zin a0 3 = true
  · obtain ⟨kd, hk, rfl⟩ := zin_ex h3 (by omega)
    cases hL : bL B kd with
    | false =>
      refine ⟨-1003, Mx, My, ?_, ?_, Rl_same h⟩
      · show fNN_stale (nI kd) Mx = _
        rw [fNN_stale, named_X, cl_some, h3, bI_t, if_pos (by decide), rr_page hk, (hBX kd hk).1, hL, bI_f, if_neg (not_not_intro rfl)]
      · show fMd_stale (nI kd) My = _
        rw [fMd_stale, named_Y, cl_some, h3, bI_t, if_pos (by decide), rd_ok hk (by decide), (hY.2.1 kd hk).1, hL, bI_f, if_pos rfl]
    | true =>
      obtain ⟨M2, x1, x2, x3, x4, x5, x6⟩ := now_ok hW hX.1 hX.2.1 hX.2.2.1 hk
      obtain ⟨M3, y1, y2, y3⟩ := staleSet_Y hY.2.1 hO hk hY.1 hW
      have hB2 := BX_fq hBX x6 (fun c k _ _ => by omega)
      refine ⟨nI (mkM (unl (bP B kd) n (bN B kd) (nmK n E kd)) 12), M2, M3, ?_, ?_, Rl_rd h (zRd_of_zL x6) x3 y3⟩
      · show fNN_stale (nI kd) Mx = _
        rw [fNN_stale, named_X, cl_some, h3, bI_t, if_pos (by decide), rr_page hk, (hBX kd hk).1, hL, bI_t, if_pos (by decide), rr_page hk, x1, cl_some, if_pos (zNb_row hk), unlike_X (c0 := 33 + 5 * kd) (by rw [show 33 + 5 * kd + 2 = 35 + 5 * kd by omega]; exact (hB2 kd hk).2.2.2.1) x2.1 (Nat.le_trans (wK_le kd) (by decide)) (by rw [show 33 + 5 * kd + 2 = 35 + 5 * kd by omega]; exact zl_page hk) (zl_row hk) (by rw [show 33 + 5 * kd + 2 = 35 + 5 * kd by omega]; exact (hB2 kd hk).2.1) x2.2.1 (hO kd hk).1 hn, cl_some]
      · show fMd_stale (nI kd) My = _
        rw [fMd_stale, named_Y, cl_some, h3, bI_t, if_pos (by decide), rd_ok hk (by decide), (hY.2.1 kd hk).1, hL, bI_t, if_neg (by decide), y1, cl_some]
  · refine ⟨-1002, Mx, My, ?_, ?_, Rl_same h⟩
    · show fNN_stale a0 Mx = _
      rw [fNN_stale, named_X, cl_some, Bool.eq_false_iff.mpr h3, bI_f, if_neg (not_not_intro rfl)]
    · show fMd_stale a0 My = _
      rw [fMd_stale, named_Y, cl_some, Bool.eq_false_iff.mpr h3, bI_f, if_neg (not_not_intro rfl)]
theorem popc_lt {m : Nat} : popc m ≤ 32 := fb_ct_le _ _
theorem nar_1 : vp_nar .boolean 1 = 1 := by decide
theorem st_learn (a0 : Int32) : zStep Rl (fun M => fNN_learn a0 M) (fun M => fMd_learn a0 M) := by
  rintro Mx My t ht ⟨n, E, B, tx, an, pl, c, h⟩
  have hW := h.1
  have hn := hW.1.2
  have hO := h.2.2.1
  have hX := h.2.2.2.2.1
  have hBX := hX.2.2.2.2.2.2.1
  have hY := h.2.2.2.2.2
  by_cases h3 : zin a0 3 = true
  · obtain ⟨kd, hk, rfl⟩ := zin_ex h3 (by omega)
    have e35 : 33 + 5 * kd + 2 = 35 + 5 * kd := by omega
    have hw26 : wK kd ≤ 26 := Nat.le_trans (wK_le kd) (by decide)
    obtain ⟨M2, x1, x2, x3, x4, x5, x6⟩ := now_ok hW hX.1 hX.2.1 hX.2.2.1 hk
    obtain ⟨M3, y1, y2, y3⟩ := staleSet_Y hY.2.1 hO hk hY.1 hW
    have hX2 := InvX_rd hX (zRd_of_zL x6) x3
    have hB2 := hX2.2.2.2.2.2.2.1
    have hY3 := InvY_rd hY y3
    have hset : mkM (unl (bP B kd) n (bN B kd) (nmK n E kd)) 12 < 2 ^ 12 := mkM_lt _ _
    obtain ⟨M4, t1, t2, t3, t4, t5, t6⟩ := take_X (M := M2) (c0 := 33 + 5 * kd) (c1 := 23 + 3 * kd) (w := wK kd) (n := n) (by omega) (by rw [e35]; exact (hB2 kd hk).2.2.2.1.1) x2.1 hw26 (by rw [e35]; exact zl_page hk) (zl_row hk) x2.2.1 hn
    have hN5 : NetY (zs (zs M3 17 kd 1) 18 kd (nI n)) n E := fq_netY (P := fun c _ => c = 17 ∨ c = 18) (fq_zs (fq_zs fq_rf (by omega)) (by omega)) hY3.1 (fun k => by omega)
    have hM5 : NmY (zs (zs M3 17 kd 1) 18 kd (nI n)) (nmK n E kd) := y2.fq (P := fun c _ => c = 17 ∨ c = 18) (fq_zs (fq_zs fq_rf (by omega)) (by omega)) (fun k => by omega)
    obtain ⟨M6, l1, l2, l3⟩ := learn_Y hk hN5 hW hM5 (fun q hq => Nat.le_trans (nmK_shp hW hk hq).1 (wK_le kd)) (nI (popc (mkM (unl (bP B kd) n (bN B kd) (nmK n E kd)) 12)))
    have hup : ∀ q, q < n → upto (nmK n E kd) n q = nmK n E kd q := fun q hq => if_pos hq
    refine ⟨nI (popc (mkM (unl (bP B kd) n (bN B kd) (nmK n E kd)) 12)), M4, M6, ?_, ?_, ?_⟩
    · show fNN_learn (nI kd) Mx = _
      rw [fNN_learn, named_X, cl_some, h3, bI_t, if_pos (by decide), x1, cl_some, if_pos (zNb_row hk), rr_page hk, unlike_X (c0 := 33 + 5 * kd) (by rw [e35]; exact (hB2 kd hk).2.2.2.1) x2.1 hw26 (by rw [e35]; exact zl_page hk) (zl_row hk) (by rw [e35]; exact (hB2 kd hk).2.1) x2.2.1 (hO kd hk).1 hn, cl_some, bitCount_ok (by omega), cl_some, rr_page hk, t1, cl_some]
    · show fMd_learn (nI kd) My = _
      rw [fMd_learn, named_Y, cl_some, h3, bI_t, if_pos (by decide), y1, cl_some, ones_ok (by omega), cl_some, wr_ok hk (by decide), nar_1, zs_nc (by decide), hY3.1.1, wr_ok hk (by decide)]
      exact l1
    · refine ⟨n, E, fup B kd (true, n, upto (nmK n E kd) n, fun q => ckI (nmK n E kd q)), tx, an, pl, c, hW, by have := h.2.1; omega, fun k2 hk2 => ?_, h.2.2.2.1, ?_, ?_⟩
      · by_cases hkk : k2 = kd
        · rw [hkk]
          simp only [bP, bL, bN, fup_eq]
          exact ⟨hn, fun z => (by cases z), fun _ => hW.1.1, fun q hq => by rw [hup q hq]; exact nmK_shp hW hk hq⟩
        · simp only [bP, bL, bN, fup_ne hkk]
          exact hO k2 hk2
      · have t7 : fq (fun c k => (c = 33 + 5 * kd ∧ k = 0) ∨ c = 34 + 5 * kd ∨ c = 36 + 5 * kd ∨ c = 37 + 5 * kd ∨ (c = 35 + 5 * kd ∧ k = 2)) M2 M4 := fq_mono t6 (fun c k h => by omega)
        obtain ⟨g1, g2, g3, g4, g5, g6, g7, g8⟩ := hX2
        refine ⟨fq_net t7 g1 (fun k => by omega), g2.fq t7 (fun c k _ _ => by omega) (by omega), g3.fq t7 (fun c k _ _ => by omega), (t7 1 2 (by omega)).trans g4, PX_fq g5 t7 (by omega) (fun k => by omega), by rw [t7 48 7 (by omega)]; exact g6, fun k2 hk2 => ?_, scX_fq g8 t7 (fun k => by omega)⟩
        by_cases hkk : k2 = kd
        · rw [hkk]
          simp only [bP, bL, bN, bC, fup_eq]
          refine ⟨t2, by rw [← e35]; exact t4, by rw [t7 _ 0 (by omega)]; exact (g7 kd hk).2.2.1, by rw [← e35]; exact t3, fun q hq => ?_⟩
          rw [show 34 + 5 * kd = 33 + 5 * kd + 1 by omega]
          exact t5 q hq
        · simp only [bP, bL, bN, bC, fup_ne hkk]
          have g := g7 k2 hk2
          exact ⟨(t7 _ _ (by omega)).trans g.1, (t7 _ _ (by omega)).trans g.2.1, (t7 _ _ (by omega)).trans g.2.2.1, g.2.2.2.1.fq t7 (fun k => by omega), fun q hq => (t7 _ _ (by omega)).trans (g.2.2.2.2 q hq)⟩
      · have u1 : fq (fun c k => (c = 17 ∧ k = kd) ∨ (c = 18 ∧ k = kd) ∨ zB1 kd c k) M3 M6 := fq_tr (fq_zs (fq_zs fq_rf (by omega)) (by omega)) (fq_mono l3 (fun c k h => by omega))
        refine ⟨fq_netY u1 hY3.1 (fun k => by omega), fun k2 hk2 => ?_, scY_fq hY3.2.2 u1 (fun k => by omega)⟩
        by_cases hkk : k2 = kd
        · rw [hkk]
          simp only [bP, bL, bN, bC, fup_eq]
          refine ⟨by rw [l3 17 kd (by omega), zs_nc (by decide), zs_eq]; rfl, by rw [l3 18 kd (by omega), zs_eq], fun q hq => ?_⟩
          rw [hup q hq]
          exact l2 q hq
        · simp only [bP, bL, bN, bC, fup_ne hkk]
          have g := hY3.2.1 k2 hk2
          have g12 := (hO k2 hk2).1
          refine ⟨(u1 _ _ (by omega)).trans g.1, (u1 _ _ (by omega)).trans g.2.1, fun q hq => ?_⟩
          have hq12 : q < 12 := Nat.lt_of_lt_of_le hq g12
          refine ⟨⟨(u1 _ _ (by omega)).trans (g.2.2 q hq).1.1, fun j x hj => (u1 _ _ ?_).trans ((g.2.2 q hq).1.2 j x hj)⟩, (u1 _ _ (by omega)).trans (g.2.2 q hq).2⟩
          have h5 : j < (bN B k2 q).length := (List.getElem?_eq_some_iff.mp hj).1
          have h6 := ((hO k2 hk2).2.2.2 q hq).1
          have h7 := wK_le k2
          omega
  · refine ⟨-1002, Mx, My, ?_, ?_, Rl_same h⟩
    · show fNN_learn a0 Mx = _
      rw [fNN_learn, named_X, cl_some, Bool.eq_false_iff.mpr h3, bI_f, if_neg (not_not_intro rfl)]
    · show fMd_learn a0 My = _
      rw [fMd_learn, named_Y, cl_some, Bool.eq_false_iff.mpr h3, bI_f, if_neg (not_not_intro rfl)]
