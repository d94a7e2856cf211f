/-! PURE: which names are stale -/
theorem mkM_succ {f : Nat → Bool} {k : Nat} : mkM f (k + 1) = if f k = true then mkM f k ||| 2 ^ k else mkM f k := by
  apply Nat.eq_of_testBit_eq
  intro j
  by_cases hf : f k = true
  · rw [if_pos hf, Nat.testBit_or, testBit_pow, mkM_bit, mkM_bit]
    by_cases hj : j = k
    · simp [hj, hf]
    · have : ¬ k = j := fun z => hj z.symm
      have h2 : (j < k + 1) ↔ j < k := by omega
      simp [this, h2]
  · rw [if_neg hf, mkM_bit, mkM_bit]
    by_cases hj : j = k
    · simp [hj, hf]
    · have h2 : (j < k + 1) ↔ j < k := by omega
      simp [h2]
theorem mkM_stop {f : Nat → Bool} {k m : Nat} (hk : k ≤ m) (h : ∀ j, k ≤ j → j < m → f j = false) : mkM f k = mkM f m := by
  apply Nat.eq_of_testBit_eq
  intro j
  rw [mkM_bit, mkM_bit]
  by_cases h1 : j < k
  · simp [h1, show j < m by omega]
  · by_cases h2 : j < m
    · simp [h1, h2, h j (by omega) h2]
    · simp [h1, h2]
def lkI (l s : List Nat) : Bool := decide (l.map nI = s.map nI)
def unl (m n : Nat) (nm nk : Nat → List Nat) (p : Nat) : Bool := if p < m ∧ p < n then !lkI (nm p) (nk p) else (decide (p < m) || decide (p < n))
theorem unl_in {m n : Nat} {nm nk : Nat → List Nat} {p : Nat} (h1 : p < m) (h2 : p < n) : unl m n nm nk p = !lkI (nm p) (nk p) := if_pos ⟨h1, h2⟩
theorem unl_out {m n : Nat} {nm nk : Nat → List Nat} {p : Nat} (h : ¬ (p < m ∧ p < n)) : unl m n nm nk p = (decide (p < m) || decide (p < n)) := if_neg h
theorem lkI_nil : lkI [] [] = true := rfl
theorem lkI_len {l s : List Nat} (h : ¬ l.length = s.length) : lkI l s = false := by
  unfold lkI
  rw [decide_eq_false_iff_not]
  intro z
  have := congrArg List.length z
  rw [List.length_map, List.length_map] at this
  exact h this
theorem lkI_cons {a b : Nat} {l s : List Nat} : lkI (a :: l) (b :: s) = (decide (nI a = nI b) && lkI l s) := by
  unfold lkI
  rw [Bool.eq_iff_iff]
  simp only [List.map_cons, List.cons_eq_cons, decide_eq_true_eq, Bool.and_eq_true]
theorem like_X {M : zM} {c0 c1 w n m : Nat} {nm nk : Nat → List Nat} (h : NmX M c0 w nm) (h2 : NmX M c1 w nk) (hw : w ≤ 26) (hz : zln (c0 + 2) = 12 * w) (hz2 : zln (c1 + 2) = 12 * w) (hm : M c0 2 = nI m) (hn : M c1 2 = nI n) (hm12 : m ≤ 12) (hn12 : n ≤ 12) {p : Nat} (hp : p < m ∨ p < n) : fNames_isLike c0 c1 (nI p) M = some (bI (!unl m n nm nk p), M) := by
  have hp12 : p < 12 := by omega
  rw [fNames_isLike, hm, hn, rd_ok hp12 (by decide), rd_ok hp12 (by decide), (h.2 p hp12).1, (h2.2 p hp12).1, zbl_0]
  have l1 := (h.2 p hp12).2.1
  have l2 := (h2.2 p hp12).2.1
  by_cases hpm : p < m
  · rw [if_neg (nI_ge hpm (by omega))]
    by_cases hpn : p < n
    · rw [if_neg (nI_ge hpn (by omega)), unl_in hpm hpn, Bool.not_not]
      by_cases hl : (nm p).length = (nk p).length
      · rw [if_pos (by rw [hl])]
        refine lpE (f := fun fu k (_ : Unit) M => fNames_isLike_35 fu c0 c1 (nI p) (nI k) M) (n := (nm p).length)
          (I := fun k _ M' => M' = M ∧ lkI (nm p) (nk p) = lkI ((nm p).drop k) ((nk p).drop k))
          (R := fun o => o = some (bI (lkI (nm p) (nk p)), M)) ?_ ?_ 0 FU () M (by omega) (fu_ok (by omega)) ⟨rfl, rfl⟩
        · rintro fu - M' ⟨rfl, h3⟩
          rw [List.drop_length, hl, List.drop_length] at h3
          rw [fNames_isLike_35, rd_ok hp12 (by decide), (h.2 p hp12).1, if_pos (nI_le (by omega) (by omega)), zbl_1, h3]
          rfl
        · rintro fu k - M' hk ⟨rfl, h3⟩
          rw [drop_cons (getD_some hk), drop_cons (getD_some (show k < (nk p).length by omega)), lkI_cons] at h3
          rw [fNames_isLike_35, rd_ok hp12 (by decide), (h.2 p hp12).1, if_neg (nI_ge hk (by omega)), num_in h hw hz hp12 hk, cl_some, num_in h2 hw hz2 hp12 (by omega), cl_some, nI_1]
          by_cases he : nI ((nm p).getD k 0) = nI ((nk p).getD k 0)
          · right
            rw [decide_eq_true he, Bool.true_and] at h3
            rw [if_pos he]
            exact ⟨(), M', rfl, rfl, h3⟩
          · left
            rw [decide_eq_false he, Bool.false_and] at h3
            rw [if_neg he, h3, zbl_0]
            rfl
      · rw [if_neg (fun z => hl ((nI_eq (by omega) (by omega)).mp z)), lkI_len hl]
        rfl
    · rw [if_pos (nI_le (by omega) (by omega)), unl_out (fun z => hpn z.2), decide_eq_true hpm]
      rfl
  · rw [if_pos (nI_le (by omega) (by omega)), unl_out (fun z => hpm z.1), decide_eq_true (show p < n by omega), Bool.or_true]
    rfl
theorem unlike_X {M : zM} {c0 c1 w n m : Nat} {nm nk : Nat → List Nat} (h : NmX M (c0 + 2) w nm) (h2 : NmX M c1 w nk) (hw : w ≤ 26) (hz : zln (c0 + 2 + 2) = 12 * w) (hz2 : zln (c1 + 2) = 12 * w) (hm : M (c0 + 2) 2 = nI m) (hn : M c1 2 = nI n) (hm12 : m ≤ 12) (hn12 : n ≤ 12) : fPage_unlike c0 c1 M = some (nI (mkM (unl m n nm nk) 12), M) := by
  rw [fPage_unlike]
  have hmax : zmax (nI m) (nI n) = nI (max m n) := by
    unfold zmax
    by_cases hlt : m < n
    · rw [if_pos (nI_lt hlt (by omega)), Nat.max_eq_right (by omega)]
    · rw [if_neg (nI_nlt (by omega) (by omega)), Nat.max_eq_left (by omega)]
  have hle : max m n ≤ 12 := Nat.max_le.mpr ⟨hm12, hn12⟩
  refine lpE (f := fun fu k (_ : Unit) M => fPage_unlike_4 fu c0 c1 (nI (mkM (unl m n nm nk) k)) (nI k) M) (n := max m n)
    (I := fun k _ M' => M' = M)
    (R := fun o => o = some (nI (mkM (unl m n nm nk) 12), M)) ?_ ?_ 0 FU () M (by omega) (fu_ok (by omega)) rfl
  · rintro fu - M' rfl
    rw [fPage_unlike_4, hm, hn, hmax, if_pos (nI_le (by omega) (by omega)), mkM_stop (m := 12) hle (fun j h1 h2 => by
      have hj1 : ¬ j < m := by have := Nat.le_max_left m n; omega
      have hj2 : ¬ j < n := by have := Nat.le_max_right m n; omega
      rw [unl_out (fun z => hj1 z.1)]
      simp [hj1, hj2])]
  · rintro fu k - M' hk rfl
    right
    refine ⟨(), M', ?_, rfl⟩
    rw [fPage_unlike_4, hm, hn, hmax, if_neg (nI_ge hk (by omega)), like_X h h2 hw hz hz2 hm hn hm12 hn12 (by omega), cl_some, nI_1, mkM_succ]
    cases hu : unl m n nm nk k with
    | false =>
      rw [Bool.not_false, bI_t, if_pos (by decide), if_neg (by decide)]
    | true =>
      rw [Bool.not_true, bI_f, if_neg (not_not_intro rfl), if_pos rfl, lt_eq, zshl_pow (by omega), fa_or]
theorem stale1_Y {M : zM} {B : bkT} (hB : BY M B) (hO : bkOk B) {kd n : Nat} (hk : kd < 3) {E : List (Nat × Nat)} (hN : NetY M n E) (hW : gW n E) {nk : Nat → List Nat} (hM : NmY M nk) (hnk : ∀ q, q < n → (nk q).length ≤ 24) {p : Nat} (hp : p < 12) : fMd_isStale (nI kd) (nI p) M = some (bI (unl (bP B kd) n (bN B kd) nk p), M) := by
  have hn := hW.1.2
  have hm := (hO kd hk).1
  rw [fMd_isStale, in_book hB hO hk, cl_some, noPost_ok hN hW, cl_some, zin_nI_iff (by omega), zin_nI_iff (by omega)]
  have key : ∀ b2 : Bool, b2 = decide (p < n) → fMd_isStale_21 (nI kd) (nI p) (bI (decide (p < bP B kd))) (bI b2) (bI (decide (p < bP B kd))) M = if decide (p < bP B kd) = b2 then (if p < bP B kd then (if (bN B kd p).length = (nk p).length then fMd_isStale_64 FU (nI kd) (nI p) 1 (nI (bN B kd p).length) 0 0 M else fMd_isStale_64 FU (nI kd) (nI p) 1 (nI (bN B kd p).length) 1 0 M) else some (0, M)) else some (1, M) := by
    intro b2 hb2
    rw [fMd_isStale_21, qlit12, nI_times, nI_add, rd_ok (show 12 * kd + p < 36 by omega) (by decide), rd_ok hp (by decide), (hM p hp).1]
    by_cases hpm : p < bP B kd
    · have hb := ((hB kd hk).2.2 p hpm).1
      have hs := ((hO kd hk).2.2.2 p hpm).1
      have := wK_le kd
      rw [decide_eq_true hpm, bI_t, if_pos hpm, hb.1]
      cases b2 with
      | true =>
        rw [bI_t, if_pos rfl, if_pos rfl, if_neg (by decide)]
        have := hnk p (of_decide_eq_true hb2.symm)
        by_cases hl : (bN B kd p).length = (nk p).length
        · rw [if_pos (by rw [hl]), if_pos hl]
        · rw [if_neg (fun z => hl ((nI_eq (by omega) (by omega)).mp z)), if_neg hl]
      | false =>
        rw [bI_f, if_neg (by decide), if_neg (by decide), zbl_1]
    · rw [decide_eq_false hpm, bI_f, if_neg hpm]
      cases b2 with
      | true => rw [bI_t, if_neg (by decide), if_neg (by decide), zbl_1]
      | false =>
        rw [bI_f, if_pos rfl, if_pos rfl, if_pos rfl, show FU = 4999 + 1 from rfl, fMd_isStale_64, if_pos rfl, zbl_0]
        simp
  have kb := key (decide (p < n)) rfl
  by_cases hpn : p < n
  · rw [decide_eq_true hpn] at kb ⊢
    rw [Bool.not_true, bI_f, if_neg (not_not_intro rfl), ← bI_t, kb]
    by_cases hpm : p < bP B kd
    · have hb := ((hB kd hk).2.2 p hpm).1
      have hs := ((hO kd hk).2.2.2 p hpm).1
      have := wK_le kd
      have hl24 := hnk p hpn
      rw [unl_in hpm hpn, decide_eq_true hpm, if_pos rfl, if_pos hpm]
      by_cases hl : (bN B kd p).length = (nk p).length
      · rw [if_pos hl]
        refine lpE (f := fun fu k (s : Bool) M => fMd_isStale_64 fu (nI kd) (nI p) 1 (nI (bN B kd p).length) (bI s) (nI k) M) (n := (bN B kd p).length)
          (I := fun k s M' => M' = M ∧ (!lkI (bN B kd p) (nk p)) = (s || !lkI ((bN B kd p).drop k) ((nk p).drop k)))
          (R := fun o => o = some (bI (!lkI (bN B kd p) (nk p)), M)) ?_ ?_ 0 FU false M (by omega) (fu_ok (by omega)) ⟨rfl, rfl⟩
        · rintro fu s M' ⟨rfl, h3⟩
          rw [List.drop_length, hl, List.drop_length, lkI_nil] at h3
          simp only [Bool.not_true, Bool.or_false] at h3
          rw [fMd_isStale_64, if_pos (nI_le (by omega) (by omega)), h3]
          cases s <;> simp [bI, zbl_0, zbl_1]
        · rintro fu k s M' hk2 ⟨rfl, h3⟩
          have hk3 : k < (nk p).length := by omega
          rw [fMd_isStale_64, if_neg (nI_ge hk2 (by omega)), if_neg (by decide), bookAt_ok, cl_some, nI_add, bkR_get hb hk hp (by omega) hk2, qlit26, nI_times, nI_add, rowY_get (hM p hp) hp (by omega) hk3, nI_1]
          cases s with
          | true =>
            left
            rw [Bool.true_or] at h3
            rw [bI_t, if_pos (by decide), h3, zbl_1]
            rfl
          | false =>
            right
            rw [Bool.false_or, drop_cons (getD_some hk2), drop_cons (getD_some hk3), lkI_cons] at h3
            rw [bI_f, if_neg (not_not_intro rfl)]
            by_cases he : nI ((bN B kd p).getD k 0) = nI ((nk p).getD k 0)
            · rw [decide_eq_true he, Bool.true_and] at h3
              rw [if_pos he]
              exact ⟨false, M', rfl, rfl, h3⟩
            · rw [decide_eq_false he, Bool.false_and] at h3
              rw [if_neg he]
              exact ⟨true, M', rfl, rfl, by rw [h3]; rfl⟩
      · rw [if_neg hl, lkI_len hl, show FU = 4999 + 1 from rfl, fMd_isStale_64, if_neg (show ¬ (1 : Int32) = 0 by decide), if_pos (show ¬ (1 : Int32) = 0 by decide), zbl_1]
        simp
        rfl
    · rw [unl_out (fun z => hpm z.1), decide_eq_false hpm, decide_eq_true hpn, if_neg (by decide)]
      rfl
  · rw [decide_eq_false hpn] at kb ⊢
    rw [Bool.not_false, bI_t, if_pos (by decide), ← bI_f, kb, unl_out (fun z => hpn z.2), decide_eq_false hpn]
    by_cases hpm : p < bP B kd
    · rw [decide_eq_true hpm, if_neg (by decide)]
      rfl
    · rw [decide_eq_false hpm, if_pos rfl, if_neg hpm]
      rfl
theorem staleSet_Y {M : zM} {B : bkT} (hB : BY M B) (hO : bkOk B) {kd n : Nat} (hk : kd < 3) {E : List (Nat × Nat)} (hN : NetY M n E) (hW : gW n E) :
    ∃ M2, fMd_staleSet (nI kd) M = some (nI (mkM (unl (bP B kd) n (bN B kd) (nmK n E kd)) 12), M2) ∧ NmY M2 (nmK n E kd) ∧ fq zY M M2 := by
  obtain ⟨M2, a1, a2, a3, a4⟩ := findNames_ok hW hN hk
  have hN2 := fq_netY a4 hN (fun k => by omega)
  have hB2 : BY M2 B := fun k2 hk2 => by
    have h := hB k2 hk2
    refine ⟨(a4 17 _ (by omega)).trans h.1, (a4 18 _ (by omega)).trans h.2.1, fun q hq => ⟨⟨(a4 19 _ (by omega)).trans (h.2.2 q hq).1.1, fun j x hj => (a4 20 _ (by omega)).trans ((h.2.2 q hq).1.2 j x hj)⟩, (a4 21 _ (by omega)).trans (h.2.2 q hq).2⟩⟩
  refine ⟨M2, ?_, a2, a4⟩
  have hlen : ∀ q, q < n → (nmK n E kd q).length ≤ 24 := fun q hq => Nat.le_trans (nmK_shp hW hk hq).1 (wK_le kd)
  rw [fMd_staleSet, a1, cl_some]
  refine lpE (f := fun fu k (_ : Unit) M => fMd_staleSet_9 fu (nI kd) (nI (mkM (unl (bP B kd) n (bN B kd) (nmK n E kd)) k)) (nI k) M) (n := 12)
    (I := fun k _ M' => M' = M2)
    (R := fun o => o = some (nI (mkM (unl (bP B kd) n (bN B kd) (nmK n E kd)) 12), M2)) ?_ ?_ 0 FU () M2 (by omega) (fu_ok (by omega)) rfl
  · rintro fu - M' rfl
    rw [fMd_staleSet_9, if_pos (by decide)]
  · rintro fu k - M' hk2 rfl
    right
    refine ⟨(), M', ?_, rfl⟩
    rw [fMd_staleSet_9, if_neg (show ¬ (12 : Int32) ≤ nI k from nI_ge (b := 12) hk2 (by omega)), stale1_Y hB2 hO hk hN2 hW a2 hlen hk2, cl_some, nI_1, mkM_succ, lt_eq, lt_eq]
    cases hu : unl (bP B kd) n (bN B kd) (nmK n E kd) k with
    | false =>
      rw [bI_f, if_pos rfl, if_neg (by decide), show (0 : Int32) = nI 0 from rfl, fa_or, Nat.or_zero]
    | true =>
      rw [bI_t, if_neg (by decide), if_pos rfl, zshl_pow (by omega), fa_or]
