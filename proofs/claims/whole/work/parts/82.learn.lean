/-! PURE: a kind is learned -/
theorem copy_X {M : zM} {c0 c1 w n : Nat} {nk : Nat → List Nat} (hc : c1 + 2 < c0) (h0 : M c0 1 = nI w) (h : NmX M c1 w nk) (hw : w ≤ 26) (hz : zln (c0 + 2) = 12 * w) (hz2 : zln (c1 + 2) = 12 * w) (hn : M c1 2 = nI n) (hn12 : n ≤ 12) :
    ∃ M2, fNames_copy c0 c1 M = some ((), M2) ∧ NmX M2 c0 w (upto nk n) ∧ M2 c0 2 = nI n ∧ fq (fun c k => c = c0 + 1 ∨ c = c0 + 2 ∨ (c = c0 ∧ k = 2)) M M2 := by
  obtain ⟨M1, a1, a2, a3, a4⟩ := nmBegin_ok (M := M) (c0 := c0) (w := w) (M c1 2) h0
  have a4 : fq (fun c k => c = c0 + 1 ∨ c = c0 + 2 ∨ (c = c0 ∧ k = 2)) M M1 := fq_fr a4 (fun c k hc => by simp; omega)
  rw [hn] at a3
  rw [fNames_copy, a1, cl_some]
  refine lpE (f := fun fu k (_ : Unit) M => fNames_copy_10 fu c0 c1 (nI k) M) (n := n)
    (I := fun k _ M' => NmX M' c0 w (upto nk k) ∧ fq (fun c _ => c = c0 + 1 ∨ c = c0 + 2) M1 M')
    (R := fun o => ∃ M2, o = some ((), M2) ∧ NmX M2 c0 w (upto nk n) ∧ M2 c0 2 = nI n ∧ fq (fun c k => c = c0 + 1 ∨ c = c0 + 2 ∨ (c = c0 ∧ k = 2)) M M2) ?_ ?_ 0 FU () M1 (by omega) (fu_ok (by omega)) ⟨a2, fq_rf⟩
  · rintro fu - M' ⟨h1, h2⟩
    have e := (h2 c0 2 (by omega)).trans a3
    refine ⟨M', ?_, h1, e, fq_tr a4 (fq_mono h2 (fun c k h => by omega))⟩
    rw [fNames_copy_10, e, if_pos (nI_le (by omega) (by omega))]
  · rintro fu k - M' hk ⟨h1, h2⟩
    right
    have e := (h2 c0 2 (by omega)).trans a3
    have hlk := (h.2 k (by omega)).2.1
    have inner : ∃ M2, fNames_copy_20 (fNames_copy_10 fu) FU c0 c1 (nI k) 0 M' = fNames_copy_10 fu c0 c1 (nI (k + 1)) M2 ∧ NmX M2 c0 w (upto nk (k + 1)) ∧ fq (fun c _ => c = c0 + 1 ∨ c = c0 + 2) M1 M2 := by
      refine lpE (f := fun fu2 j (_ : Unit) M => fNames_copy_20 (fNames_copy_10 fu) fu2 c0 c1 (nI k) (nI j) M) (n := (nk k).length)
        (I := fun j _ M2 => NmX M2 c0 w (fup (upto nk k) k ((nk k).take j)) ∧ fq (fun c _ => c = c0 + 1 ∨ c = c0 + 2) M1 M2)
        (R := fun o => ∃ M2, o = fNames_copy_10 fu c0 c1 (nI (k + 1)) M2 ∧ NmX M2 c0 w (upto nk (k + 1)) ∧ fq (fun c _ => c = c0 + 1 ∨ c = c0 + 2) M1 M2) ?_ ?_ 0 FU () M' (by omega) (fu_ok (by omega)) ⟨by
          have : fup (upto nk k) k ((nk k).take 0) = upto nk k := by
            funext x
            by_cases hx : x = k
            · rw [hx, fup_eq, upto_self]
              rfl
            · rw [fup_ne hx]
          rw [this]
          exact h1, h2⟩
      · rintro fu2 - M2 ⟨i1, i2⟩
        rw [List.take_length, upto_succ] at i1
        refine ⟨M2, ?_, i1, i2⟩
        rw [fNames_copy_20, rd_ok (show k < 12 by omega) (by decide), i2 (c1 + 1) k (by omega), a4 (c1 + 1) k (by omega), (h.2 k (by omega)).1, if_pos (nI_le (by omega) (by omega)), nI_1]
      · rintro fu2 j - M2 hj ⟨i1, i2⟩
        right
        have hM2 : NmX M2 c1 w nk := h.fq (P := fun c k => c = c0 + 1 ∨ c = c0 + 2 ∨ (c = c0 ∧ k = 2)) (fq_tr a4 (fq_mono i2 (fun c k h => by omega))) (fun k => by omega)
        obtain ⟨M3, b1, b2, b3⟩ := append_ok i1 hw hz (a := (nk k).getD j 0) (show k < 12 by omega) (by rw [fup_eq, List.length_take]; omega)
        rw [fup_fup, fup_eq] at b2
        refine ⟨(), M3, ?_, ?_, fq_tr i2 (fq_fr b3 (fun c k hc => by simp; omega))⟩
        · rw [fNames_copy_20, rd_ok (show k < 12 by omega) (by decide), (hM2.2 k (by omega)).1, if_neg (nI_ge hj (by omega)), num_in hM2 hw hz2 (by omega) hj, cl_some, b1, cl_some, nI_1]
        · have : (nk k).take (j + 1) = (nk k).take j ++ [(nk k).getD j 0] := by
            rw [List.take_succ_eq_append_getElem hj]
            have := getD_some hj
            rw [List.getElem?_eq_getElem hj] at this
            rw [← Option.some.inj this]
          rw [this]
          exact b2
    obtain ⟨M2, i1, i2, i3⟩ := inner
    refine ⟨(), M2, ?_, i2, i3⟩
    rw [fNames_copy_10, e, if_neg (nI_ge hk (by omega)), i1]
theorem take_X {M : zM} {c0 c1 w n : Nat} {nk : Nat → List Nat} (hc : c1 + 2 < c0) (h0 : M (c0 + 2) 1 = nI w) (h : NmX M c1 w nk) (hw : w ≤ 26) (hz : zln (c0 + 2 + 2) = 12 * w) (hz2 : zln (c1 + 2) = 12 * w) (hn : M c1 2 = nI n) (hn12 : n ≤ 12) :
    ∃ M2, fPage_take c0 c1 M = some ((), M2) ∧ M2 c0 0 = 1 ∧ NmX M2 (c0 + 2) w (upto nk n) ∧ M2 (c0 + 2) 2 = nI n ∧ (∀ q, q < n → M2 (c0 + 1) q = ckI (nk q)) ∧ fq (fun c k => (c = c0 ∧ k = 0) ∨ c = c0 + 1 ∨ c = c0 + 3 ∨ c = c0 + 4 ∨ (c = c0 + 2 ∧ k = 2)) M M2 := by
  have f0 : fq (fun c k => c = c0 ∧ k = 0) M (zs M c0 0 1) := fq_zs fq_rf ⟨rfl, rfl⟩
  obtain ⟨M1, a1, a2, a3, a4⟩ := copy_X (M := zs M c0 0 1) (c0 := c0 + 2) (c1 := c1) (by omega) (by rw [f0 _ _ (by omega)]; exact h0) (h.fq f0 (fun k => by omega)) hw hz hz2 ((f0 _ _ (by omega)).trans hn) hn12
  have f1 : fq (fun c k => (c = c0 ∧ k = 0) ∨ c = c0 + 1 ∨ c = c0 + 3 ∨ c = c0 + 4 ∨ (c = c0 + 2 ∧ k = 2)) M M1 := fq_tr (fq_mono f0 (fun c k h => by omega)) (fq_mono a4 (fun c k h => by omega))
  have e0 : M1 c0 0 = 1 := by rw [a4 c0 0 (by omega), zs_eq]
  rw [fPage_take, wf_eq, a1, cl_some]
  refine lpE (f := fun fu k (_ : Unit) M => fPage_take_15 fu c0 (nI k) M) (n := n)
    (I := fun k _ M' => (∀ q, q < k → M' (c0 + 1) q = ckI (nk q)) ∧ fq (fun c _ => c = c0 + 1) M1 M')
    (R := fun o => ∃ M2, o = some ((), M2) ∧ M2 c0 0 = 1 ∧ NmX M2 (c0 + 2) w (upto nk n) ∧ M2 (c0 + 2) 2 = nI n ∧ (∀ q, q < n → M2 (c0 + 1) q = ckI (nk q)) ∧ fq (fun c k => (c = c0 ∧ k = 0) ∨ c = c0 + 1 ∨ c = c0 + 3 ∨ c = c0 + 4 ∨ (c = c0 + 2 ∧ k = 2)) M M2) ?_ ?_ 0 FU () M1 (by omega) (fu_ok (by omega)) ⟨fun q hq => by omega, fq_rf⟩
  · rintro fu - M' ⟨h1, h2⟩
    have e := (h2 (c0 + 2) 2 (by omega)).trans a3
    refine ⟨M', ?_, (h2 c0 0 (by omega)).trans e0, a2.fq h2 (fun k => by omega), e, h1, fq_tr f1 (fq_mono h2 (fun c k h => by omega))⟩
    rw [fPage_take_15, e, if_pos (nI_le (by omega) (by omega))]
  · rintro fu k - M' hk ⟨h1, h2⟩
    right
    have e := (h2 (c0 + 2) 2 (by omega)).trans a3
    have hup : upto nk n k = nk k := if_pos hk
    refine ⟨(), zs M' (c0 + 1) k (ckI (nk k)), ?_, fun q hq => ?_, fq_zs h2 rfl⟩
    · rw [fPage_take_15, e, if_neg (nI_ge hk (by omega)), check_X (a2.fq h2 (fun k => by omega)) hw hz (show k < 12 by omega), cl_some, hup, wr_ok (show k < 12 by omega) (by decide), nI_1]
    · by_cases hqk : q = k
      · rw [hqk, zs_eq]
      · rw [zs_nk hqk]
        exact h1 q (by omega)
abbrev zB1 (kd : Nat) : Nat → Nat → Prop := fun c k => ((c = 19 ∨ c = 21) ∧ 12 * kd ≤ k ∧ k < 12 * kd + 12) ∨ (c = 20 ∧ 312 * kd ≤ k ∧ k < 312 * kd + 312)
theorem learn_Y {M : zM} {kd n : Nat} (hk : kd < 3) {E : List (Nat × Nat)} (hN : NetY M n E) (hW : gW n E) {nk : Nat → List Nat} (hM : NmY M nk) (hnk : ∀ q, q < n → (nk q).length ≤ 24) (v : Int32) :
    ∃ M2, fMd_learn_44 FU (nI kd) v 0 M = some (v, M2) ∧ (∀ q, q < n → bkR M2 kd q (nk q) ∧ M2 21 (12 * kd + q) = ckI (nk q)) ∧ fq (zB1 kd) M M2 := by
  have hn := hW.1.2
  refine lpE (f := fun fu k (_ : Unit) M => fMd_learn_44 fu (nI kd) v (nI k) M) (n := n)
    (I := fun k _ M' => (∀ q, q < k → bkR M' kd q (nk q) ∧ M' 21 (12 * kd + q) = ckI (nk q)) ∧ fq (zB1 kd) M M')
    (R := fun o => ∃ M2, o = some (v, M2) ∧ (∀ q, q < n → bkR M2 kd q (nk q) ∧ M2 21 (12 * kd + q) = ckI (nk q)) ∧ fq (zB1 kd) M M2) ?_ ?_ 0 FU () M (by omega) (fu_ok (by omega)) ⟨fun q hq => by omega, fq_rf⟩
  · rintro fu - M' ⟨h1, h2⟩
    refine ⟨M', ?_, h1, h2⟩
    rw [fMd_learn_44, h2 0 0 (by omega), hN.1, if_pos (nI_le (by omega) (by omega))]
  · rintro fu k - M' hk2 ⟨h1, h2⟩
    right
    have hl := hnk k hk2
    have f3 : fq (fun c i => (c = 19 ∧ i = 12 * kd + k)) M' (zs M' 19 (12 * kd + k) (nI (nk k).length)) := fq_zs fq_rf ⟨rfl, rfl⟩
    have inner : ∃ M2, fMd_learn_72 (fMd_learn_44 fu) FU (nI kd) v (nI k) 0 (zs M' 19 (12 * kd + k) (nI (nk k).length)) = fMd_learn_44 fu (nI kd) v (nI (k + 1)) M2 ∧ bkR M2 kd k (nk k) ∧ M2 21 (12 * kd + k) = ckI (nk k) ∧ fq (fun c i => ((c = 19 ∨ c = 21) ∧ i = 12 * kd + k) ∨ (c = 20 ∧ 26 * (12 * kd + k) ≤ i ∧ i < 26 * (12 * kd + k) + 26)) M' M2 := by
      refine lpE (f := fun fu2 j (_ : Unit) M => fMd_learn_72 (fMd_learn_44 fu) fu2 (nI kd) v (nI k) (nI j) M) (n := (nk k).length)
        (I := fun j _ M2 => M2 19 (12 * kd + k) = nI (nk k).length ∧ (∀ i x : Nat, i < j → (nk k)[i]? = some x → M2 20 (26 * (12 * kd + k) + i) = nI x) ∧ fq (fun c i => (c = 19 ∧ i = 12 * kd + k) ∨ (c = 20 ∧ 26 * (12 * kd + k) ≤ i ∧ i < 26 * (12 * kd + k) + 26)) M' M2)
        (R := fun o => ∃ M2, o = fMd_learn_44 fu (nI kd) v (nI (k + 1)) M2 ∧ bkR M2 kd k (nk k) ∧ M2 21 (12 * kd + k) = ckI (nk k) ∧ fq (fun c i => ((c = 19 ∨ c = 21) ∧ i = 12 * kd + k) ∨ (c = 20 ∧ 26 * (12 * kd + k) ≤ i ∧ i < 26 * (12 * kd + k) + 26)) M' M2) ?_ ?_ 0 FU () _ (by omega) (fu_ok (by omega)) ⟨zs_eq, fun i x h => by omega, fq_mono f3 (fun c k h => by omega)⟩
      · rintro fu2 - M2 ⟨i1, i2, i3⟩
        have hR : bkR M2 kd k (nk k) := ⟨i1, fun j x hj => i2 j x (List.getElem?_eq_some_iff.mp hj).1 hj⟩
        refine ⟨zs M2 21 (12 * kd + k) (ckI (nk k)), ?_, ⟨by rw [zs_nc (by decide)]; exact i1, fun j x hj => by rw [zs_nc (by decide)]; exact hR.2 j x hj⟩, zs_eq, fq_zs (fq_mono i3 (fun c k h => by omega)) (by omega)⟩
        rw [fMd_learn_72, rd_ok (show k < 12 by omega) (by decide), i3 12 k (by omega), h2 12 k (by omega), (hM k (by omega)).1, if_pos (nI_le (by omega) (by omega)), check_Y hR hk (by omega) (by omega), cl_some, qlit12, nI_times, nI_add, wr_ok (show 12 * kd + k < 36 by omega) (by decide), nI_1]
      · rintro fu2 j - M2 hj ⟨i1, i2, i3⟩
        right
        refine ⟨(), zs M2 20 (26 * (12 * kd + k) + j) (nI ((nk k).getD j 0)), ?_, by rw [zs_nc (by decide)]; exact i1, fun i x hi hx => ?_, fq_zs i3 (by omega)⟩
        · rw [fMd_learn_72, rd_ok (show k < 12 by omega) (by decide), i3 12 k (by omega), h2 12 k (by omega), (hM k (by omega)).1, if_neg (nI_ge hj (by omega)), bookAt_ok, cl_some, qlit26, nI_times, nI_add, nI_add, rd_ok (show 26 * k + j < 312 by omega) (by decide), i3 13 _ (by omega), h2 13 _ (by omega), (hM k (by omega)).2 j _ (getD_some hj), wr_ok (show 26 * (12 * kd + k) + j < 936 by omega) (by decide), nI_1]
        · by_cases hij : i = j
          · rw [hij] at hx ⊢
            rw [zs_eq]
            rw [getD_some hj] at hx
            rw [Option.some.inj hx]
          · rw [zs_nk (by omega)]
            exact i2 i x (by omega) hx
    obtain ⟨M2, i1, i2, i3, i4⟩ := inner
    refine ⟨(), M2, ?_, fun q hq => ?_, fq_tr h2 (fq_mono i4 (fun c k h => by omega))⟩
    · rw [fMd_learn_44, h2 0 0 (by omega), hN.1, if_neg (nI_ge hk2 (by omega)), rd_ok (show k < 12 by omega) (by decide), h2 12 k (by omega), (hM k (by omega)).1, qlit12, nI_times, nI_add, wr_ok (show 12 * kd + k < 36 by omega) (by decide), i1]
    · by_cases hqk : q = k
      · rw [hqk]
        exact ⟨i2, i3⟩
      · have := h1 q (by omega)
        have hlq := hnk q (by omega)
        refine ⟨⟨(i4 19 _ (by omega)).trans this.1.1, fun j x hj => (i4 20 _ (by have := (List.getElem?_eq_some_iff.mp hj).1; omega)).trans (this.1.2 j x hj)⟩, (i4 21 _ (by omega)).trans this.2⟩
