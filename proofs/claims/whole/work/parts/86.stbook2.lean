/-! PURE: steps of the book: forge, book, answer, damaged -/
theorem zin3_cases (v : Int32) {n : Nat} (hn : n < 2 ^ 31) : (∃ j : Nat, j < n ∧ v = nI j ∧ zin v n = true) ∨ zin v n = false := by
  by_cases h : zin v n = true
  · obtain ⟨j, hj, e⟩ := zin_ex h hn
    exact Or.inl ⟨j, hj, e, h⟩
  · exact Or.inr (Bool.eq_false_iff.mpr h)
theorem nms_has {M : zM} {c0 w : Nat} {nm : Nat → List Nat} (h : NmX M c0 w nm) (hw : w ≤ 26) {q : Nat} (hq : q < 12) (v : Int32) : fNames_has c0 (nI q) v M = some (bI (zin v (nm q).length), M) := by
  have hl := (h.2 q hq).2.1
  rw [fNames_has, rd_ok hq (by decide), (h.2 q hq).1, two_if, zin_lt (by omega)]
theorem in_size {v : Int32} {k : Nat} (hk : k < 2 ^ 31) (M : zM) : fMd_in v.toInt64 0 ((nI k - 1).toInt64) M = some (bI (zin v k), M) := by
  rw [show (0 : Int64) = (0 : Int32).toInt64 from rfl, in_I, zin_sub hk]
theorem num_gen {M : zM} {c0 w : Nat} {nm : Nat → List Nat} (h : NmX M c0 w nm) (hw : w ≤ 26) (hz : zln (c0 + 2) = 12 * w) {q : Nat} (hq : q < 12) (v : Int32) : fNames_number c0 (nI q) v M = some (if v = -1 then nI (nm q).length else oI (if zin v (nm q).length = true then (nm q)[v.toNatClampNeg]? else none), M) := by
  have hl := (h.2 q hq).2.1
  by_cases h1 : v = -1
  · rw [fNames_number, if_neg (not_not_intro h1), rd_ok hq (by decide), (h.2 q hq).1, if_pos h1]
  · rcases zin3_cases v (n := (nm q).length) (by omega) with ⟨j, hj, rfl, hz2⟩ | hz2
    · rw [number_ok h hw hz hq (by omega), if_neg h1, if_pos hz2, nI_clamp (by omega)]
    · rw [fNames_number, if_pos h1, if_neg h1, hz2, if_neg (show ¬ false = true by decide), rd_ok hq (by decide), (h.2 q hq).1]
      rw [zin_lt (by omega)] at hz2
      by_cases h2 : v < 0
      · rw [if_pos h2]
        rfl
      · rw [if_neg h2]
        by_cases h3 : nI (nm q).length ≤ v
        · rw [if_pos h3]
          rfl
        · simp [h2, h3] at hz2
def setN (nm : Nat → List Nat) (q k v : Nat) : Nat → List Nat := fup nm q ((nm q).set k v)
theorem put_X {M : zM} {c0 w : Nat} {nm : Nat → List Nat} (h : NmX M c0 w nm) (hw : w ≤ 26) (hz : zln (c0 + 2) = 12 * w) {q k v : Nat} (hq : q < 12) (hk : k < (nm q).length) :
    ∃ M2, fNames_put c0 (nI q) (nI k) (nI v) M = some ((), M2) ∧ NmX M2 c0 w (setN nm q k v) ∧ fq (fun c _ => c = c0 + 2) M M2 := by
  have hl := (h.2 q hq).2.1
  have hqw : ∀ x, x < 12 → x * w + w ≤ 12 * w := fun x hx => by
    have : (x + 1) * w ≤ 12 * w := Nat.mul_le_mul_right w hx
    rw [Nat.add_mul, Nat.one_mul] at this
    exact this
  have hin := hqw q hq
  refine ⟨zs M (c0 + 2) (q * w + k) (nI v), ?_, ⟨by rw [zs_nc (by omega)]; exact h.1, fun x hx => ⟨?_, ?_, fun j a hj => ?_⟩⟩, fq_zs fq_rf rfl⟩
  · rw [fNames_put, nms_has h hw hq, cl_some, zin_nI hk (by omega), bI_t, if_neg (by decide), h.1, nI_times, nI_add, wr_ok (show q * w + k < zln (c0 + 2) by omega) (by omega)]
  · rw [zs_nc (by omega)]
    unfold setN
    by_cases hxq : x = q
    · rw [hxq, fup_eq, List.length_set]
      exact (h.2 q hq).1
    · rw [fup_ne hxq]
      exact (h.2 x hx).1
  · unfold setN
    by_cases hxq : x = q
    · rw [hxq, fup_eq, List.length_set]
      exact hl
    · rw [fup_ne hxq]
      exact (h.2 x hx).2.1
  · unfold setN at hj
    by_cases hxq : x = q
    · rw [hxq, fup_eq] at hj
      rw [hxq]
      by_cases hjk : j = k
      · rw [hjk, List.getElem?_set_self hk] at hj
        rw [hjk, zs_eq, Option.some.inj hj]
      · rw [List.getElem?_set_ne (fun z => hjk z.symm)] at hj
        rw [zs_nk (by omega)]
        exact (h.2 q hq).2.2 j a hj
    · rw [fup_ne hxq] at hj
      have hjl := (List.getElem?_eq_some_iff.mp hj).1
      have hxl := (h.2 x hx).2.1
      rw [zs_nk (fun z => by
        rcases Nat.lt_trichotomy x q with hlt | hlt | hlt
        · have : (x + 1) * w ≤ q * w := Nat.mul_le_mul_right w hlt
          rw [Nat.add_mul, Nat.one_mul] at this
          omega
        · exact hxq hlt
        · have : (q + 1) * w ≤ x * w := Nat.mul_le_mul_right w hlt
          rw [Nat.add_mul, Nat.one_mul] at this
          omega)]
      exact (h.2 x hx).2.2 j a hj
theorem flat_set : ∀ (l : List (Nat × Nat)) (k v : Nat), okP l → v < 1000 → ∃ l2, (flat l).set k v = flat l2 ∧ okP l2
  | [], k, v, h, _ => ⟨[], rfl, h⟩
  | e :: l, 0, v, h, hv => ⟨(v, e.2) :: l, rfl, fun x hx => by
      rcases List.mem_cons.mp hx with z | z
      · rw [z]
        exact ⟨hv, (h e List.mem_cons_self).2⟩
      · exact h x (List.mem_cons_of_mem _ z)⟩
  | e :: l, 1, v, h, hv => ⟨(e.1, v) :: l, rfl, fun x hx => by
      rcases List.mem_cons.mp hx with z | z
      · rw [z]
        exact ⟨(h e List.mem_cons_self).1, hv⟩
      · exact h x (List.mem_cons_of_mem _ z)⟩
  | e :: l, k + 2, v, h, hv => by
    obtain ⟨l2, h1, h2⟩ := flat_set l k v (fun x hx => h x (List.mem_cons_of_mem _ hx)) hv
    refine ⟨e :: l2, ?_, fun x hx => ?_⟩
    · rw [flat, flat, ← h1]
      rfl
    · rcases List.mem_cons.mp hx with z | z
      · rw [z]
        exact h e List.mem_cons_self
      · exact h2 x z
theorem shp_set {kd k v : Nat} {l : List Nat} (h : shp kd l) (hv : v < 1000) : shp kd (l.set k v) := by
  refine ⟨by rw [List.length_set]; exact h.1, fun z => by rw [List.length_set]; exact h.2.1 z, fun z => by rw [List.length_set]; exact h.2.2.1 z, fun z => ?_⟩
  obtain ⟨ps, h1, h2⟩ := h.2.2.2 z
  obtain ⟨l2, h3, h4⟩ := flat_set ps k v h2 hv
  exact ⟨l2, by rw [h1, h3], h4⟩
theorem le99 {v : Int32} (h0 : ¬ v < 0) (h : v ≤ 99) : ∃ k : Nat, k ≤ 99 ∧ v = nI k := nI_of2 (M := 99) rfl h0 h
theorem in99 (v : Int32) (M : zM) : fMd_in v.toInt64 0 99 M = some (bI (decide (0 ≤ v) && decide (v ≤ 99)), M) := by
  rw [show (0 : Int64) = (0 : Int32).toInt64 from rfl, show (99 : Int64) = (99 : Int32).toInt64 from rfl, in_I]
theorem st_forge (a0 a1 a2 a3 : Int32) : zStep Rl (fun M => fNN_forge a0 a1 a2 a3 M) (fun M => fMd_forge a0 a1 a2 a3 M) := by
  rintro Mx My t ht ⟨n, E, B, tx, an, pl, c, h⟩
  have hW := h.1
  have hO := h.2.2.1
  have hX := h.2.2.2.2.1
  have hBX := hX.2.2.2.2.2.2.1
  have hY := h.2.2.2.2.2
  rcases zin3_cases a0 (n := 3) (by decide) with ⟨kd, hk, rfl, h3⟩ | h3
  · have e35 : 33 + 5 * kd + 2 = 35 + 5 * kd := by omega
    have hw26 : wK kd ≤ 26 := Nat.le_trans (wK_le kd) (by decide)
    have hb := hBX kd hk
    have ho := hO kd hk
    have ex : fNN_forge (nI kd) a1 a2 a3 Mx = if ¬ bI (zin a1 (bP B kd)) = 0 then (cl (fNames_has (35 + 5 * kd) a1 a2 Mx) fun r7 M6 => if r7 = 0 then some (-1002, M6) else if a3 < 0 then some (-1002, M6) else if a3 ≤ 99 then (cl (fNames_number (35 + 5 * kd) a1 a2 M6) fun r9 M8 => cl (fNames_put (35 + 5 * kd) a1 a2 a3 M8) fun _ M10 => some (r9, M10)) else some (-1002, M6)) else some (-1001, Mx) := by
      rw [fNN_forge, named_X, cl_some, h3, bI_t, if_pos (by decide), rr_page hk, page_has hBX hO hk, cl_some, e35]
    have ey : fMd_forge (nI kd) a1 a2 a3 My = if ¬ bI (zin a1 (bP B kd)) = 0 then (rd My 19 36 ((12 * nI kd) + a1) fun x5 => cl (fMd_in a2.toInt64 0 ((x5 - 1).toInt64) My) fun r7 M6 => if r7 = 0 then some (-1002, M6) else (cl (fMd_in a3.toInt64 0 99 M6) fun r9 M8 => if ¬ r9 = 0 then (cl (fMd_bookAt (nI kd) a1 M8) fun r11 M10 => rd M10 20 936 (r11 + a2) fun x12 => cl (fMd_bookAt (nI kd) a1 M10) fun r14 M13 => wr M13 20 936 (r14 + a2) a3 fun M15 => some (x12, M15)) else some (-1002, M8))) else some (-1001, My) := by
      rw [fMd_forge, named_Y, cl_some, h3, bI_t, if_pos (by decide), in_book hY.2.1 hO hk, cl_some]
    rcases zin3_cases a1 (n := bP B kd) (by omega) with ⟨q, hq, rfl, h4⟩ | h4
    · have hsh := ho.2.2.2 q hq
      have hbr := ((hY.2.1 kd hk).2.2 q hq).1
      have hlen : (bN B kd q).length ≤ 24 := Nat.le_trans hsh.1 (wK_le kd)
      rw [h4, bI_t, if_pos (by decide), nms_has hb.2.2.2.1 hw26 (by omega), cl_some] at ex
      rw [h4, bI_t, if_pos (by decide), qlit12, nI_times, nI_add, rd_ok (show 12 * kd + q < 36 by omega) (by decide), hbr.1, in_size (by omega), cl_some, in99, cl_some] at ey
      rcases zin3_cases a2 (n := (bN B kd q).length) (by omega) with ⟨k, hkk, rfl, h5⟩ | h5
      · rw [h5, bI_t, if_neg (by decide)] at ex ey
        by_cases c0 : a3 < 0
        · refine ⟨-1002, Mx, My, ?_, ?_, Rl_same h⟩
          · show fNN_forge (nI kd) (nI q) (nI k) a3 Mx = _
            rw [ex, if_pos c0]
          · show fMd_forge (nI kd) (nI q) (nI k) a3 My = _
            rw [ey, decide_eq_false (fa_of_lt c0).2.1, Bool.false_and, bI_f, if_neg (not_not_intro rfl)]
        · rw [if_neg c0] at ex
          rw [decide_eq_true (fa_of_nlt c0), Bool.true_and] at ey
          by_cases c9 : a3 ≤ 99
          · obtain ⟨v, hv, rfl⟩ := le99 c0 c9
            rw [if_pos c9, num_in hb.2.2.2.1 hw26 (zl_page hk) (by omega) hkk, cl_some] at ex
            rw [decide_eq_true c9, bI_t, if_pos (by decide), bookAt_ok, cl_some, nI_add, bkR_get hbr hk (by omega) (by omega) hkk, bookAt_ok, cl_some, nI_add, wr_ok (show 26 * (12 * kd + q) + k < 936 by omega) (by decide)] at ey
            obtain ⟨M2, p1, p2, p3⟩ := put_X hb.2.2.2.1 hw26 (zl_page hk) (v := v) (show q < 12 by omega) hkk
            have p4 : fq (fun c _ => c = 37 + 5 * kd) Mx M2 := fq_mono p3 (fun c k h => by omega)
            refine ⟨_, M2, zs My 20 (26 * (12 * kd + q) + k) (nI v), by show fNN_forge (nI kd) (nI q) (nI k) (nI v) Mx = _; rw [ex, p1, cl_some], ey, n, E, fup B kd (bL B kd, bP B kd, setN (bN B kd) q k v, bC B kd), tx, an, pl, c, hW, by have := h.2.1; omega, fun k2 hk2 => ?_, h.2.2.2.1, ?_, ?_⟩
            · by_cases hk2d : k2 = kd
              · rw [hk2d]
                simp only [bP, bL, bN, fup_eq]
                refine ⟨ho.1, ho.2.1, ho.2.2.1, fun x hx => ?_⟩
                unfold setN
                by_cases hxq : x = q
                · rw [hxq, fup_eq]
                  exact shp_set hsh (by omega)
                · rw [fup_ne hxq]
                  exact ho.2.2.2 x hx
              · simp only [bP, bL, bN, fup_ne hk2d]
                exact hO k2 hk2
            · obtain ⟨g1, g2, g3, g4, g5, g6, g7, g8⟩ := hX
              refine ⟨fq_net p4 g1 (fun k => by omega), g2.fq p4 (fun c k _ _ => by omega) (by omega), g3.fq p4 (fun c k _ _ => by omega), (p4 1 2 (by omega)).trans g4, PX_fq g5 p4 (by omega) (fun k => by omega), by rw [p4 48 7 (by omega)]; exact g6, fun k2 hk2 => ?_, scX_fq g8 p4 (fun k => by omega)⟩
              by_cases hk2d : k2 = kd
              · rw [hk2d]
                simp only [bP, bL, bN, bC, fup_eq]
                exact ⟨(p4 _ _ (by omega)).trans hb.1, (p4 _ _ (by omega)).trans hb.2.1, (p4 _ _ (by omega)).trans hb.2.2.1, p2, fun x hx => (p4 _ _ (by omega)).trans (hb.2.2.2.2 x hx)⟩
              · simp only [bP, bL, bN, bC, fup_ne hk2d]
                have g := g7 k2 hk2
                exact ⟨(p4 _ _ (by omega)).trans g.1, (p4 _ _ (by omega)).trans g.2.1, (p4 _ _ (by omega)).trans g.2.2.1, g.2.2.2.1.fq p4 (fun k => by omega), fun x hx => (p4 _ _ (by omega)).trans (g.2.2.2.2 x hx)⟩
            · have u1 : fq (fun c i => c = 20 ∧ i = 26 * (12 * kd + q) + k) My (zs My 20 (26 * (12 * kd + q) + k) (nI v)) := fq_zs fq_rf ⟨rfl, rfl⟩
              refine ⟨fq_netY u1 hY.1 (fun k => by omega), fun k2 hk2 => ?_, scY_fq hY.2.2 u1 (fun k => by omega)⟩
              have g := hY.2.1 k2 hk2
              have g12 := (hO k2 hk2).1
              have gl : ∀ x, x < bP B k2 → x < 12 ∧ (bN B k2 x).length ≤ 24 := fun x hx => ⟨by omega, Nat.le_trans ((hO k2 hk2).2.2.2 x hx).1 (wK_le k2)⟩
              by_cases hk2d : k2 = kd
              · rw [hk2d] at g gl ⊢
                simp only [bP, bL, bN, bC, fup_eq]
                refine ⟨(u1 _ _ (by omega)).trans g.1, (u1 _ _ (by omega)).trans g.2.1, fun x hx => ?_⟩
                have gx := gl x hx
                refine ⟨⟨?_, fun j y hj => ?_⟩, (u1 _ _ (by omega)).trans (g.2.2 x hx).2⟩
                · rw [u1 _ _ (by omega)]
                  unfold setN
                  by_cases hxq : x = q
                  · rw [hxq, fup_eq, List.length_set]
                    exact hbr.1
                  · rw [fup_ne hxq]
                    exact (g.2.2 x hx).1.1
                · unfold setN at hj
                  by_cases hxq : x = q
                  · rw [hxq, fup_eq] at hj
                    rw [hxq]
                    by_cases hjk : j = k
                    · rw [hjk, List.getElem?_set_self hkk] at hj
                      rw [hjk, zs_eq, Option.some.inj hj]
                    · rw [List.getElem?_set_ne (fun z => hjk z.symm)] at hj
                      rw [zs_nk (by omega)]
                      exact hbr.2 j y hj
                  · rw [fup_ne hxq] at hj
                    have h5 : j < (bN B kd x).length := (List.getElem?_eq_some_iff.mp hj).1
                    rw [zs_nk (by omega)]
                    exact (g.2.2 x hx).1.2 j y hj
              · simp only [bP, bL, bN, bC, fup_ne hk2d]
                refine ⟨(u1 _ _ (by omega)).trans g.1, (u1 _ _ (by omega)).trans g.2.1, fun x hx => ?_⟩
                have gx := gl x hx
                refine ⟨⟨(u1 _ _ (by omega)).trans (g.2.2 x hx).1.1, fun j y hj => (u1 _ _ ?_).trans ((g.2.2 x hx).1.2 j y hj)⟩, (u1 _ _ (by omega)).trans (g.2.2 x hx).2⟩
                have h5 : j < (bN B k2 x).length := (List.getElem?_eq_some_iff.mp hj).1
                omega
          · refine ⟨-1002, Mx, My, ?_, ?_, Rl_same h⟩
            · show fNN_forge (nI kd) (nI q) (nI k) a3 Mx = _
              rw [ex, if_neg c9]
            · show fMd_forge (nI kd) (nI q) (nI k) a3 My = _
              rw [ey, decide_eq_false c9, bI_f, if_neg (not_not_intro rfl)]
      · refine ⟨-1002, Mx, My, ?_, ?_, Rl_same h⟩
        · show fNN_forge (nI kd) (nI q) a2 a3 Mx = _
          rw [ex, h5, bI_f, if_pos rfl]
        · show fMd_forge (nI kd) (nI q) a2 a3 My = _
          rw [ey, h5, bI_f, if_pos rfl]
    · refine ⟨-1001, Mx, My, ?_, ?_, Rl_same h⟩
      · show fNN_forge (nI kd) a1 a2 a3 Mx = _
        rw [ex, h4, bI_f, if_neg (not_not_intro rfl)]
      · show fMd_forge (nI kd) a1 a2 a3 My = _
        rw [ey, h4, bI_f, if_neg (not_not_intro rfl)]
  · refine ⟨-1002, Mx, My, ?_, ?_, Rl_same h⟩
    · show fNN_forge a0 a1 a2 a3 Mx = _
      rw [fNN_forge, named_X, cl_some, h3, bI_f, if_neg (not_not_intro rfl)]
    · show fMd_forge a0 a1 a2 a3 My = _
      rw [fMd_forge, named_Y, cl_some, h3, bI_f, if_neg (not_not_intro rfl)]
