/-! PURE: steps of the book: book, answer, damaged -/
theorem st_book (a0 a1 a2 : Int32) : zStep Rl (fun M => fNN_book a0 a1 a2 M) (fun M => fMd_book a0 a1 a2 M) := by
  rintro Mx My t ht ⟨n, E, B, tx, an, pl, c, h⟩
  have hO := h.2.2.1
  have hX := h.2.2.2.2.1
  have hBX := hX.2.2.2.2.2.2.1
  have hY := h.2.2.2.2.2
  rcases zin3_cases a0 (n := 3) (by decide) with ⟨kd, hk, rfl, h3⟩ | h3
  · have e35 : 33 + 5 * kd + 2 = 35 + 5 * kd := by omega
    have e34 : 33 + 5 * kd + 1 = 34 + 5 * kd := by omega
    have hw26 : wK kd ≤ 26 := Nat.le_trans (wK_le kd) (by decide)
    have hb := hBX kd hk
    have ho := hO kd hk
    rcases zin3_cases a1 (n := bP B kd) (by omega) with ⟨q, hq, rfl, h4⟩ | h4
    · have hsh := ho.2.2.2 q hq
      have hbr := (hY.2.1 kd hk).2.2 q hq
      have hlen : (bN B kd q).length ≤ 24 := Nat.le_trans hsh.1 (wK_le kd)
      have ex : fNN_book (nI kd) (nI q) a2 Mx = if ¬ a2 = -2 then some (if a2 = -1 then nI (bN B kd q).length else oI (if zin a2 (bN B kd q).length = true then (bN B kd q)[a2.toNatClampNeg]? else none), Mx) else some (bC B kd q, Mx) := by
        rw [fNN_book, named_X, cl_some, h3, bI_t, if_pos (by decide), rr_page hk, page_has hBX hO hk, cl_some, h4, bI_t, if_pos (by decide), e35, e34, num_gen hb.2.2.2.1 hw26 (zl_page hk) (by omega), cl_some, rd_ok (show q < 12 by omega) (by decide), hb.2.2.2.2 q hq]
      have ey : fMd_book (nI kd) (nI q) a2 My = if ¬ a2 = -1 then (if ¬ a2 = -2 then (if bI (zin a2 (bN B kd q).length) = 0 then some (-1, My) else (cl (fMd_bookAt (nI kd) (nI q) My) fun r9 M8 => rd M8 20 936 (r9 + a2) fun x10 => some (x10, M8))) else some (bC B kd q, My)) else some (nI (bN B kd q).length, My) := by
        rw [fMd_book, named_Y, cl_some, h3, bI_t, if_pos (by decide), in_book hY.2.1 hO hk, cl_some, h4, bI_t, if_pos (by decide), qlit12, nI_times, nI_add, rd_ok (show 12 * kd + q < 36 by omega) (by decide), hbr.1.1, in_size (by omega), cl_some, rd_ok (show 12 * kd + q < 36 by omega) (by decide), hbr.2]
      by_cases c1 : a2 = -1
      · refine ⟨nI (bN B kd q).length, Mx, My, ?_, ?_, Rl_same h⟩
        · show fNN_book (nI kd) (nI q) a2 Mx = _
          rw [ex, if_pos (by rw [c1]; decide), if_pos c1]
        · show fMd_book (nI kd) (nI q) a2 My = _
          rw [ey, if_neg (not_not_intro c1)]
      · by_cases c2 : a2 = -2
        · refine ⟨bC B kd q, Mx, My, ?_, ?_, Rl_same h⟩
          · show fNN_book (nI kd) (nI q) a2 Mx = _
            rw [ex, if_neg (not_not_intro c2)]
          · show fMd_book (nI kd) (nI q) a2 My = _
            rw [ey, if_pos c1, if_neg (not_not_intro c2)]
        · rw [if_pos c2, if_neg c1] at ex
          rw [if_pos c1, if_pos c2] at ey
          rcases zin3_cases a2 (n := (bN B kd q).length) (by omega) with ⟨k, hkk, rfl, h5⟩ | h5
          · refine ⟨nI ((bN B kd q).getD k 0), Mx, My, ?_, ?_, Rl_same h⟩
            · show fNN_book (nI kd) (nI q) (nI k) Mx = _
              rw [ex, if_pos h5, nI_clamp (by omega), getD_some hkk]
              rfl
            · show fMd_book (nI kd) (nI q) (nI k) My = _
              rw [ey, h5, bI_t, if_neg (by decide), bookAt_ok, cl_some, nI_add, bkR_get hbr.1 hk (by omega) (by omega) hkk]
          · refine ⟨-1, Mx, My, ?_, ?_, Rl_same h⟩
            · show fNN_book (nI kd) (nI q) a2 Mx = _
              rw [ex, h5, if_neg (show ¬ false = true by decide)]
              rfl
            · show fMd_book (nI kd) (nI q) a2 My = _
              rw [ey, h5, bI_f, if_pos rfl]
    · refine ⟨-1001, Mx, My, ?_, ?_, Rl_same h⟩
      · show fNN_book (nI kd) a1 a2 Mx = _
        rw [fNN_book, named_X, cl_some, h3, bI_t, if_pos (by decide), rr_page hk, page_has hBX hO hk, cl_some, h4, bI_f, if_neg (not_not_intro rfl)]
      · show fMd_book (nI kd) a1 a2 My = _
        rw [fMd_book, named_Y, cl_some, h3, bI_t, if_pos (by decide), in_book hY.2.1 hO hk, cl_some, h4, bI_f, if_neg (not_not_intro rfl)]
  · refine ⟨-1002, Mx, My, ?_, ?_, Rl_same h⟩
    · show fNN_book a0 a1 a2 Mx = _
      rw [fNN_book, named_X, cl_some, h3, bI_f, if_neg (not_not_intro rfl)]
    · show fMd_book a0 a1 a2 My = _
      rw [fMd_book, named_Y, cl_some, h3, bI_f, if_neg (not_not_intro rfl)]
/-- a name that is still as its check says -/
def rgt (B : bkT) (kd q : Nat) : Bool := decide (bC B kd q = ckI (bN B kd q))
theorem right_X {M : zM} {B : bkT} (hB : BX M B) (hO : bkOk B) {kd q : Nat} (hk : kd < 3) (hq : q < bP B kd) : fPage_isRight (33 + 5 * kd) (nI q) M = some (bI (rgt B kd q), M) := by
  have ho := (hO kd hk).1
  have hb := hB kd hk
  rw [fPage_isRight, show 33 + 5 * kd + 1 = 34 + 5 * kd by omega, rd_ok (show q < 12 by omega) (by decide), hb.2.2.2.2 q hq, check_X (c0 := 33 + 5 * kd) (by rw [show 33 + 5 * kd + 2 = 35 + 5 * kd by omega]; exact hb.2.2.2.1) (Nat.le_trans (wK_le kd) (by decide)) (by rw [show 33 + 5 * kd + 2 = 35 + 5 * kd by omega]; exact zl_page hk) (by omega), cl_some, zbl_0, zbl_1]
  unfold rgt
  by_cases h : bC B kd q = ckI (bN B kd q)
  · rw [if_neg (not_not_intro h), decide_eq_true h]
    rfl
  · rw [if_pos h, decide_eq_false h]
    rfl
theorem dam_Y {M : zM} {B : bkT} (hB : BY M B) (hO : bkOk B) {kd q : Nat} (hk : kd < 3) (hq : q < bP B kd) : fMd_isDamaged (nI kd) (nI q) M = some (bI (!rgt B kd q), M) := by
  have ho := hO kd hk
  have hb := (hB kd hk).2.2 q hq
  have hl : (bN B kd q).length ≤ 24 := Nat.le_trans (ho.2.2.2 q hq).1 (wK_le kd)
  rw [fMd_isDamaged, check_Y hb.1 hk (by omega) (by omega), cl_some, qlit12, nI_times, nI_add, rd_ok (show 12 * kd + q < 36 by omega) (by decide), hb.2, zbl_0, zbl_1]
  unfold rgt
  by_cases h : bC B kd q = ckI (bN B kd q)
  · rw [if_pos h.symm, decide_eq_true h]
    rfl
  · rw [if_neg (fun z => h z.symm), decide_eq_false h]
    rfl
theorem st_damaged (a0 : Int32) : zStep Rl (fun M => fNN_damaged a0 M) (fun M => fMd_damaged a0 M) := by
  rintro Mx My t ht ⟨n, E, B, tx, an, pl, c, h⟩
  have hO := h.2.2.1
  have hX := h.2.2.2.2.1
  have hBX := hX.2.2.2.2.2.2.1
  have hY := h.2.2.2.2.2
  rcases zin3_cases a0 (n := 3) (by decide) with ⟨kd, hk, rfl, h3⟩ | h3
  · have ho := hO kd hk
    cases hL : bL B kd with
    | false =>
      refine ⟨-1003, Mx, My, ?_, ?_, Rl_same h⟩
      · show fNN_damaged (nI kd) Mx = _
        rw [fNN_damaged, named_X, cl_some, h3, bI_t, if_pos (by decide), rr_page hk, (hBX kd hk).1, hL, bI_f, if_neg (not_not_intro rfl)]
      · show fMd_damaged (nI kd) My = _
        rw [fMd_damaged, named_Y, cl_some, h3, bI_t, if_pos (by decide), rd_ok hk (by decide), (hY.2.1 kd hk).1, hL, bI_f, if_neg (not_not_intro rfl)]
    | true =>
      refine ⟨nI (fb_ct (fun q => !rgt B kd q) (bP B kd)), Mx, My, ?_, ?_, Rl_same h⟩
      · show fNN_damaged (nI kd) Mx = _
        rw [fNN_damaged, named_X, cl_some, h3, bI_t, if_pos (by decide), rr_page hk, (hBX kd hk).1, hL, bI_t, if_pos (by decide), rr_page hk, fPage_wrongChecks]
        have : fPage_wrongChecks_4 FU (33 + 5 * kd) 0 0 Mx = some (nI (fb_ct (fun q => !rgt B kd q) (bP B kd)), Mx) := by
          refine lpE (f := fun fu k (_ : Unit) M => fPage_wrongChecks_4 fu (33 + 5 * kd) (nI (fb_ct (fun q => !rgt B kd q) k)) (nI k) M) (n := bP B kd)
            (I := fun k _ M' => M' = Mx)
            (R := fun o => o = some (nI (fb_ct (fun q => !rgt B kd q) (bP B kd)), Mx)) ?_ ?_ 0 FU () Mx (by omega) (fu_ok (by omega)) rfl
          · rintro fu - M' rfl
            rw [fPage_wrongChecks_4, show 33 + 5 * kd + 2 = 35 + 5 * kd by omega, (hBX kd hk).2.1, if_pos (nI_le (by omega) (by omega))]
          · rintro fu k - M' hk2 rfl
            right
            refine ⟨(), M', ?_, rfl⟩
            rw [fPage_wrongChecks_4, show 33 + 5 * kd + 2 = 35 + 5 * kd by omega, (hBX kd hk).2.1, if_neg (nI_ge hk2 (by omega)), right_X hBX hO hk hk2, cl_some, fb_ct_succ, nI_1, lt_eq, lt_eq]
            cases rgt B kd k with
            | true =>
              rw [bI_t, if_neg (by decide), show (0 : Int32) = nI 0 from rfl, nI_add, nI_1]
              rfl
            | false =>
              rw [bI_f, if_pos rfl, nI_1]
              rfl
        rw [this, cl_some]
      · show fMd_damaged (nI kd) My = _
        rw [fMd_damaged, named_Y, cl_some, h3, bI_t, if_pos (by decide), rd_ok hk (by decide), (hY.2.1 kd hk).1, hL, bI_t, if_pos (by decide)]
        refine lpE (f := fun fu k (_ : Unit) M => fMd_damaged_33 fu (nI kd) (nI (fb_ct (fun q => !rgt B kd q) k)) (nI k) M) (n := bP B kd)
          (I := fun k _ M' => M' = My)
          (R := fun o => o = some (nI (fb_ct (fun q => !rgt B kd q) (bP B kd)), My)) ?_ ?_ 0 FU () My (by omega) (fu_ok (by omega)) rfl
        · rintro fu - M' rfl
          rw [fMd_damaged_33, rd_ok hk (by decide), (hY.2.1 kd hk).2.1, if_pos (nI_le (by omega) (by omega))]
        · rintro fu k - M' hk2 rfl
          right
          refine ⟨(), M', ?_, rfl⟩
          rw [fMd_damaged_33, rd_ok hk (by decide), (hY.2.1 kd hk).2.1, if_neg (nI_ge hk2 (by omega)), dam_Y hY.2.1 hO hk hk2, cl_some, bit_ok, cl_some, lt_eq, bI_nI, nI_add, fb_ct_succ, nI_1]
          cases rgt B kd k <;> rfl
  · refine ⟨-1002, Mx, My, ?_, ?_, Rl_same h⟩
    · show fNN_damaged a0 Mx = _
      rw [fNN_damaged, named_X, cl_some, h3, bI_f, if_neg (not_not_intro rfl)]
    · show fMd_damaged a0 My = _
      rw [fMd_damaged, named_Y, cl_some, h3, bI_f, if_neg (not_not_intro rfl)]
/-- names out of the book, laid where the reference's names lie -/
theorem lay_Y {M : zM} {B : bkT} (hB : BY M B) (hO : bkOk B) {kd : Nat} (hk : kd < 3) (v2 v3 : Int32) :
    ∃ M2, fMd_answer_63 FU (nI kd) v2 v3 0 M = (cl (fMd_sayOf (nI kd) v2 v3 M2) fun r3 M2 => some (r3, M2)) ∧ (∀ q, q < bP B kd → rowY M2 q (bN B kd q)) ∧ fq (fun c _ => c = 12 ∨ c = 13) M M2 := by
  have ho := hO kd hk
  have hl : ∀ q, q < bP B kd → (bN B kd q).length ≤ 24 := fun q hq => Nat.le_trans (ho.2.2.2 q hq).1 (wK_le kd)
  refine lpE (f := fun fu k (_ : Unit) M => fMd_answer_63 fu (nI kd) v2 v3 (nI k) M) (n := bP B kd)
    (I := fun k _ M' => (∀ q, q < k → rowY M' q (bN B kd q)) ∧ fq (fun c _ => c = 12 ∨ c = 13) M M')
    (R := fun o => ∃ M2, o = (cl (fMd_sayOf (nI kd) v2 v3 M2) fun r3 M2 => some (r3, M2)) ∧ (∀ q, q < bP B kd → rowY M2 q (bN B kd q)) ∧ fq (fun c _ => c = 12 ∨ c = 13) M M2) ?_ ?_ 0 FU () M (by omega) (fu_ok (by omega)) ⟨fun q hq => by omega, fq_rf⟩
  · rintro fu - M' ⟨h1, h2⟩
    refine ⟨M', ?_, h1, h2⟩
    rw [fMd_answer_63, rd_ok hk (by decide), h2 18 kd (by omega), (hB kd hk).2.1, if_pos (nI_le (by omega) (by omega))]
  · rintro fu k - M' hk2 ⟨h1, h2⟩
    right
    have hlk := hl k hk2
    have hb := ((hB kd hk).2.2 k hk2).1
    have inner : ∃ M2, fMd_answer_96 (fMd_answer_63 fu) FU (nI kd) v2 v3 (nI k) 0 (zs M' 12 k (nI (bN B kd k).length)) = fMd_answer_63 fu (nI kd) v2 v3 (nI (k + 1)) M2 ∧ rowY M2 k (bN B kd k) ∧ fq (fun c i => (c = 12 ∧ i = k) ∨ (c = 13 ∧ 26 * k ≤ i ∧ i < 26 * k + 26)) M' M2 := by
      refine lpE (f := fun fu2 j (_ : Unit) M => fMd_answer_96 (fMd_answer_63 fu) fu2 (nI kd) v2 v3 (nI k) (nI j) M) (n := (bN B kd k).length)
        (I := fun j _ M2 => M2 12 k = nI (bN B kd k).length ∧ (∀ i x : Nat, i < j → (bN B kd k)[i]? = some x → M2 13 (26 * k + i) = nI x) ∧ fq (fun c i => (c = 12 ∧ i = k) ∨ (c = 13 ∧ 26 * k ≤ i ∧ i < 26 * k + 26)) M' M2)
        (R := fun o => ∃ M2, o = fMd_answer_63 fu (nI kd) v2 v3 (nI (k + 1)) M2 ∧ rowY M2 k (bN B kd k) ∧ fq (fun c i => (c = 12 ∧ i = k) ∨ (c = 13 ∧ 26 * k ≤ i ∧ i < 26 * k + 26)) M' M2) ?_ ?_ 0 FU () _ (by omega) (fu_ok (by omega)) ⟨zs_eq, fun i x h => by omega, fq_zs fq_rf (by omega)⟩
      · rintro fu2 - M2 ⟨i1, i2, i3⟩
        refine ⟨M2, ?_, ⟨i1, fun j x hj => i2 j x (List.getElem?_eq_some_iff.mp hj).1 hj⟩, i3⟩
        rw [fMd_answer_96, rd_ok (show k < 12 by omega) (by decide), i1, if_pos (nI_le (by omega) (by omega)), nI_1]
      · rintro fu2 j - M2 hj ⟨i1, i2, i3⟩
        right
        refine ⟨(), zs M2 13 (26 * k + j) (nI ((bN B kd k).getD j 0)), ?_, by rw [zs_nc (by decide)]; exact i1, fun i x hi hx => ?_, fq_zs i3 (by omega)⟩
        · rw [fMd_answer_96, rd_ok (show k < 12 by omega) (by decide), i1, if_neg (nI_ge hj (by omega)), bookAt_ok, cl_some, nI_add, rd_ok (show 26 * (12 * kd + k) + j < 936 by omega) (by decide), i3 20 _ (by omega), h2 20 _ (by omega), hb.2 j _ (getD_some hj), qlit26, nI_times, nI_add, wr_ok (show 26 * k + j < 312 by omega) (by decide), nI_1]
        · by_cases hij : i = j
          · rw [hij] at hx ⊢
            rw [zs_eq]
            rw [getD_some hj] at hx
            rw [Option.some.inj hx]
          · rw [zs_nk (by omega)]
            exact i2 i x (by omega) hx
    obtain ⟨M2, i1, i2, i3⟩ := inner
    refine ⟨(), M2, ?_, fun q hq => ?_, fq_tr h2 (fq_mono i3 (fun c k h => by omega))⟩
    · rw [fMd_answer_63, rd_ok hk (by decide), h2 18 kd (by omega), (hB kd hk).2.1, if_neg (nI_ge hk2 (by omega)), qlit12, nI_times, nI_add, rd_ok (show 12 * kd + k < 36 by omega) (by decide), h2 19 _ (by omega), hb.1, wr_ok (show k < 12 by omega) (by decide), i1]
    · by_cases hqk : q = k
      · rw [hqk]
        exact i2
      · have := h1 q (by omega)
        have hlq := hl q (by omega)
        exact ⟨(i3 12 _ (by omega)).trans this.1, fun j x hj => (i3 13 _ (by have := (List.getElem?_eq_some_iff.mp hj).1; omega)).trans (this.2 j x hj)⟩
theorem st_answer (a0 a1 a2 : Int32) : zStep Rl (fun M => fNN_answer a0 a1 a2 M) (fun M => fMd_answer a0 a1 a2 M) := by
  rintro Mx My t ht ⟨n, E, B, tx, an, pl, c, h⟩
  have hO := h.2.2.1
  have hX := h.2.2.2.2.1
  have hBX := hX.2.2.2.2.2.2.1
  have hY := h.2.2.2.2.2
  rcases zin3_cases a0 (n := 3) (by decide) with ⟨kd, hk, rfl, h3⟩ | h3
  · have ho := hO kd hk
    have hb := hBX kd hk
    have e35 : 33 + 5 * kd + 2 = 35 + 5 * kd := by omega
    rcases zin3_cases a1 (n := bP B kd) (by omega) with ⟨a, ha, rfl, h4⟩ | h4
    · rcases zin3_cases a2 (n := bP B kd) (by omega) with ⟨b, hb2, rfl, h5⟩ | h5
      · have ex : fNN_answer (nI kd) (nI a) (nI b) Mx = if bI (rgt B kd a) = 0 then some (-1005, Mx) else if ¬ bI (rgt B kd b) = 0 then (cl (fNames_reply (35 + 5 * kd) (nI a) (nI b) Mx) fun r13 M12 => some (r13, M12)) else some (-1005, Mx) := by
          rw [fNN_answer, named_X, cl_some, h3, bI_t, if_pos (by decide), rr_page hk, page_has hBX hO hk, cl_some, h4, bI_t, if_neg (by decide), page_has hBX hO hk, cl_some, h5, bI_t, if_pos (by decide), right_X hBX hO hk ha, cl_some, right_X hBX hO hk hb2, cl_some, e35]
        have ey : fMd_answer (nI kd) (nI a) (nI b) My = if ¬ bI (!rgt B kd a) = 0 then some (-1005, My) else if bI (!rgt B kd b) = 0 then fMd_answer_63 FU (nI kd) (nI a) (nI b) 0 My else some (-1005, My) := by
          rw [fMd_answer, named_Y, cl_some, h3, bI_t, if_pos (by decide), in_book hY.2.1 hO hk, cl_some, h4, bI_t, if_neg (by decide), in_book hY.2.1 hO hk, cl_some, h5, bI_t, if_pos (by decide), dam_Y hY.2.1 hO hk ha, cl_some, dam_Y hY.2.1 hO hk hb2, cl_some]
        cases r1 : rgt B kd a with
        | false =>
          refine ⟨-1005, Mx, My, ?_, ?_, Rl_same h⟩
          · show fNN_answer (nI kd) (nI a) (nI b) Mx = _
            rw [ex, r1, bI_f, if_pos rfl]
          · show fMd_answer (nI kd) (nI a) (nI b) My = _
            rw [ey, r1, Bool.not_false, bI_t, if_pos (by decide)]
        | true =>
          rw [r1, bI_t, if_neg (by decide)] at ex
          rw [r1, Bool.not_true, bI_f, if_neg (not_not_intro rfl)] at ey
          cases r2 : rgt B kd b with
          | false =>
            refine ⟨-1005, Mx, My, ?_, ?_, Rl_same h⟩
            · show fNN_answer (nI kd) (nI a) (nI b) Mx = _
              rw [ex, r2, bI_f, if_neg (not_not_intro rfl)]
            · show fMd_answer (nI kd) (nI a) (nI b) My = _
              rw [ey, r2, Bool.not_false, bI_t, if_neg (by decide)]
          | true =>
            rw [r2, bI_t, if_pos (by decide), reply_X hk hb.2.2.1 hb.2.2.2.1 (zl_page hk) (by omega) (by omega) (ho.2.2.2 a ha) (ho.2.2.2 b hb2), cl_some] at ex
            rw [r2, Bool.not_true, bI_f, if_pos rfl] at ey
            obtain ⟨M2, l1, l2, l3⟩ := lay_Y hY.2.1 hO hk (nI a) (nI b)
            rw [l1, say_Y hk (l2 a ha) (l2 b hb2) (by omega) (by omega) (ho.2.2.2 a ha) (ho.2.2.2 b hb2) (fun z => by rw [z]), cl_some] at ey
            exact ⟨_, Mx, M2, ex, ey, Rl_Y h (fq_mono l3 (fun c k h => by omega))⟩
      · refine ⟨-1001, Mx, My, ?_, ?_, Rl_same h⟩
        · show fNN_answer (nI kd) (nI a) a2 Mx = _
          rw [fNN_answer, named_X, cl_some, h3, bI_t, if_pos (by decide), rr_page hk, page_has hBX hO hk, cl_some, h4, bI_t, if_neg (by decide), page_has hBX hO hk, cl_some, h5, bI_f, if_neg (not_not_intro rfl)]
        · show fMd_answer (nI kd) (nI a) a2 My = _
          rw [fMd_answer, named_Y, cl_some, h3, bI_t, if_pos (by decide), in_book hY.2.1 hO hk, cl_some, h4, bI_t, if_neg (by decide), in_book hY.2.1 hO hk, cl_some, h5, bI_f, if_neg (not_not_intro rfl)]
    · refine ⟨-1001, Mx, My, ?_, ?_, Rl_same h⟩
      · show fNN_answer (nI kd) a1 a2 Mx = _
        rw [fNN_answer, named_X, cl_some, h3, bI_t, if_pos (by decide), rr_page hk, page_has hBX hO hk, cl_some, h4, bI_f, if_pos rfl]
      · show fMd_answer (nI kd) a1 a2 My = _
        rw [fMd_answer, named_Y, cl_some, h3, bI_t, if_pos (by decide), in_book hY.2.1 hO hk, cl_some, h4, bI_f, if_pos rfl]
  · refine ⟨-1002, Mx, My, ?_, ?_, Rl_same h⟩
    · show fNN_answer a0 a1 a2 Mx = _
      rw [fNN_answer, named_X, cl_some, h3, bI_f, if_neg (not_not_intro rfl)]
    · show fMd_answer a0 a1 a2 My = _
      rw [fMd_answer, named_Y, cl_some, h3, bI_f, if_neg (not_not_intro rfl)]
