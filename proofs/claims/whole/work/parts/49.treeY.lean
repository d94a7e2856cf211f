/-! PURE: the reference grows the same tree -/
def SY (M : zM) (n : Nat) (T : tT) : Prop := (∀ q, q < n → M 4 q = if q ∈ tO T then nI (tR T q) else -1) ∧ (∀ q ∈ tO T, M 3 q = oI (tP T q) ∧ M 5 q = nI (tD T q) ∧ M 6 q = oI (tL T q) ∧ tR T q < n) ∧ M 0 9 = nI (tN T) ∧ M 0 10 = nI ((tO T).length - tN T)
/-- the reference's queue holds those from place b on -/
def QY (M : zM) (T : tT) (b : Nat) : Prop := ∀ i q : Nat, (tO T)[b + i]? = some q → M 7 i = nI q
theorem frY {M M2 : zM} {n : Nat} {E : List (Nat × Nat)} (hN : NetY M n E) {cs : List Nat} {ps : List (Nat × Nat)} (h : fr cs ps M M2) (h0 : cs.contains 0 = false) (h1 : cs.contains 1 = false) (h2 : cs.contains 2 = false) (p1 : ps.contains (0, 0) = false) (p2 : ps.contains (0, 1) = false) (p3 : ∀ kk, ps.contains (1, kk) = false ∧ ps.contains (2, kk) = false) : NetY M2 n E :=
  hN.kept ⟨h 0 0 h0 p1, h 0 1 h0 p2⟩ ⟨funext fun kk => h 1 kk h1 (p3 kk).1, funext fun kk => h 2 kk h2 (p3 kk).2⟩
theorem SY_add {M : zM} {n : Nat} {E : List (Nat × Nat)} (hW : gW n E) (hN : NetY M n E) {T : tT} (hT : tW n T) (hS : SY M n T) {b : Nat} (hQ : QY M T b) (hb : b ≤ (tO T).length) {p r q : Nat} (hp : p ∈ tO T) (hr : r < n) (hq : q < n) (hno : ¬ q ∈ tO T) (hpq : gA E p q = true) {k : Int32 → Int32 → Int32 → zM → Option (Unit × zM)} {fuel : Nat} {i : Int32} :
    ∃ M2, fMd_grow_68 k (fuel + 1) (nI r) i (nI ((tO T).length - b)) (nI p) (nI q) M = fMd_grow_68 k fuel (nI r) i (nI ((tO T).length + 1 - b)) (nI p) (nI (q + 1)) M2 ∧ SY M2 n (tAdd E p r q T) ∧ QY M2 (tAdd E p r q T) b ∧ fr [3, 4, 5, 6, 7] [(0, 10)] M M2 := by
  have hn := hW.1.2
  have hp12 : p < 12 := by have := hT.2.1 p hp; omega
  have hlen2 : (tO T).length < 12 := by
    have := (tW_add hW hT (r := r) hq hno hpq).len
    rw [show (tO (tAdd E p r q T)) = tO T ++ [q] from rfl, List.length_append] at this
    simp at this
    omega
  have hgl := gX_adj hpq
  have hl30 := hW.2.1
  have hNl := hT.2.2.2
  obtain ⟨M2, hM2⟩ : ∃ M2 : zM, M2 = zs (zs (zs (zs (zs (zs M 4 q (nI r)) 3 q (nI p)) 5 q (nI (tD T p + 1))) 6 q (nI (gL E p q))) 0 10 (nI ((tO T).length - tN T + 1))) 7 ((tO T).length - b) (nI q) := ⟨_, rfl⟩
  have a0 : ∀ kk, M2 0 kk = if kk = 10 then nI ((tO T).length - tN T + 1) else M 0 kk := by intro kk; rw [hM2]; simp [zs_at]
  have a3 : ∀ kk, M2 3 kk = if kk = q then nI p else M 3 kk := by intro kk; rw [hM2]; simp [zs_at]
  have a4 : ∀ kk, M2 4 kk = if kk = q then nI r else M 4 kk := by intro kk; rw [hM2]; simp [zs_at]
  have a5 : ∀ kk, M2 5 kk = if kk = q then nI (tD T p + 1) else M 5 kk := by intro kk; rw [hM2]; simp [zs_at]
  have a6 : ∀ kk, M2 6 kk = if kk = q then nI (gL E p q) else M 6 kk := by intro kk; rw [hM2]; simp [zs_at]
  have a7 : ∀ kk, M2 7 kk = if kk = (tO T).length - b then nI q else M 7 kk := by intro kk; rw [hM2]; simp [zs_at]
  have hfr : fr [3, 4, 5, 6, 7] [(0, 10)] M M2 := by rw [hM2]; exact fr_zs (fr_zp (fr_zs (fr_zs (fr_zs (fr_zs fr_rf rfl) rfl) rfl) rfl) rfl) rfl
  refine ⟨M2, ?_, ?_, ?_, hfr⟩
  · rw [fMd_grow_68, if_neg (by rw [hN.1]; exact nI_ge hq (by omega)), rd_ok (show q < 12 by omega) (by decide), hS.1 q hq, if_neg hno, if_neg (by decide), Md_lineOf_ok hN hW hp12 (by omega), cl_some, hgl.1]
    unfold fMd_grow_99
    rw [if_neg (nI_nlt0 (by omega))]
    simp only [wf_eq, wr_ok (show q < 12 by omega) (show 12 < 2 ^ 31 by decide), rd_ok hp12 (show 12 < 2 ^ 31 by decide), zs_nc (show ¬ 5 = 4 by decide), zs_nc (show ¬ 5 = 3 by decide), (hS.2.1 p hp).2.1, nI_1,
      zs_nc (show ¬ 0 = 4 by decide), zs_nc (show ¬ 0 = 3 by decide), zs_nc (show ¬ 0 = 5 by decide), zs_nc (show ¬ 0 = 6 by decide), hS.2.2.2, wr_ok (show (tO T).length - b < 12 by omega) (show 12 < 2 ^ 31 by decide)]
    rw [← hM2, show (tO T).length - b + 1 = (tO T).length + 1 - b by omega]
  · clear hM2
    refine ⟨fun qq hqq => ?_, fun qq hqq => ?_, ?_, ?_⟩
    · rw [a4]
      show _ = if qq ∈ tO T ++ [q] then nI (fup (tR T) q r qq) else -1
      by_cases hqe : qq = q
      · subst hqe
        rw [if_pos rfl, if_pos (mem_app1.mpr (Or.inr rfl)), fup_eq]
      · rw [if_neg hqe, fup_ne hqe, hS.1 qq hqq]
        by_cases hin : qq ∈ tO T
        · rw [if_pos hin, if_pos (mem_app1.mpr (Or.inl hin))]
        · rw [if_neg hin, if_neg (fun z => (mem_app1.mp z).elim hin hqe)]
    · rw [a3, a5, a6]
      show _ = oI (fup (tP T) q (some p) qq) ∧ _ = nI (fup (tD T) q (tD T p + 1) qq) ∧ _ = oI (fup (tL T) q (some (gL E p q)) qq) ∧ fup (tR T) q r qq < n
      by_cases hqe : qq = q
      · subst hqe
        rw [if_pos rfl, if_pos rfl, if_pos rfl, fup_eq, fup_eq, fup_eq, fup_eq]
        exact ⟨rfl, rfl, rfl, hr⟩
      · rw [if_neg hqe, if_neg hqe, if_neg hqe, fup_ne hqe, fup_ne hqe, fup_ne hqe, fup_ne hqe]
        rcases mem_app1.mp hqq with h1 | h1
        · exact hS.2.1 qq h1
        · exact absurd h1 hqe
    · rw [a0, if_neg (by decide)]
      exact hS.2.2.1
    · rw [a0, if_pos rfl]
      show _ = nI ((tO T ++ [q]).length - tN T)
      rw [List.length_append]
      congr 1
      simp
      omega
  · clear hM2
    intro ii qq hii
    have hii : (tO T ++ [q])[b + ii]? = some qq := hii
    rw [a7]
    by_cases hi : b + ii < (tO T).length
    · rw [List.getElem?_append_left hi] at hii
      rw [if_neg (by omega)]
      exact hQ ii qq hii
    · rw [List.getElem?_append_right (by omega)] at hii
      have hlt := (List.getElem?_eq_some_iff.mp hii).1
      simp at hlt
      have hiie : b + ii - (tO T).length = 0 := by omega
      rw [hiie] at hii
      simp at hii
      subst hii
      rw [if_pos (by omega)]
theorem growIn_Y {n : Nat} {E : List (Nat × Nat)} (hW : gW n E) {p r b : Nat} (hr : r < n) {k : Int32 → Int32 → Int32 → zM → Option (Unit × zM)} {i : Int32} : ∀ (d q fuel : Nat) (T : tT) (M : zM), n - q = d → q ≤ n → d < fuel → tW n T → SY M n T → QY M T b → b ≤ (tO T).length → NetY M n E → p ∈ tO T →
    ∃ M2, fMd_grow_68 k fuel (nI r) i (nI ((tO T).length - b)) (nI p) (nI q) M = k (nI r) i (nI ((tO (tIn E p r (List.range' q d) T)).length - b)) M2 ∧ SY M2 n (tIn E p r (List.range' q d) T) ∧ QY M2 (tIn E p r (List.range' q d) T) b ∧ (tO T).length ≤ (tO (tIn E p r (List.range' q d) T)).length ∧ fr [3, 4, 5, 6, 7] [(0, 10)] M M2 := by
  intro d
  induction d with
  | zero =>
    intro q fuel T M hd hq hf hT hS hQ hb hN hp
    obtain ⟨fuel, rfl⟩ : ∃ k, fuel = k + 1 := ⟨fuel - 1, by omega⟩
    have hn := hW.1.2
    refine ⟨M, ?_, hS, hQ, Nat.le_refl _, fr_rf⟩
    rw [fMd_grow_68, if_pos (by rw [hN.1]; exact nI_le (by omega) (by omega))]
    rfl
  | succ d ih =>
    intro q fuel T M hd hq hf hT hS hQ hb hN hp
    obtain ⟨fuel, rfl⟩ : ∃ k, fuel = k + 1 := ⟨fuel - 1, by omega⟩
    have hn := hW.1.2
    have hp12 : p < 12 := by have := hT.2.1 p hp; omega
    rw [range'_cons, tIn]
    by_cases hc : gA E p q = true ∧ ¬ q ∈ tO T
    · rw [if_pos hc]
      obtain ⟨M1, h1, h2, h2q, h3⟩ := SY_add hW hN hT hS hQ hb (r := r) hp hr (show q < n by omega) hc.2 hc.1 (k := k) (fuel := fuel) (i := i)
      have hl1 : (tO (tAdd E p r q T)).length = (tO T).length + 1 := by
        show (tO T ++ [q]).length = _
        rw [List.length_append]
        rfl
      obtain ⟨M2, g1, g2, g2q, gl, g3⟩ := ih (q + 1) fuel _ M1 (by omega) (by omega) (by omega) (tW_add hW hT (show q < n by omega) hc.2 hc.1) h2 h2q (by omega) (frY hN h3 rfl rfl rfl rfl rfl (fun kk => ⟨rfl, rfl⟩)) (mem_app1.mpr (Or.inl hp))
      rw [hl1] at g1 gl
      exact ⟨M2, h1.trans g1, g2, g2q, by omega, fr_tr h3 g3⟩
    · rw [if_neg hc]
      obtain ⟨M2, g1, g2, g2q, gl, g3⟩ := ih (q + 1) fuel T M (by omega) (by omega) (by omega) hT hS hQ hb hN hp
      refine ⟨M2, ?_, g2, g2q, gl, g3⟩
      rw [fMd_grow_68, if_neg (by rw [hN.1]; exact nI_ge (show q < n by omega) (by omega)), rd_ok (show q < 12 by omega) (by decide), hS.1 q (by omega)]
      by_cases hin : q ∈ tO T
      · have hrq : tR T q < n := (hS.2.1 q hin).2.2.2
        rw [if_pos hin, if_pos (nI_ge0 (by omega))]
        unfold fMd_grow_99
        rw [if_pos (by decide), nI_1]
        exact g1
      · have hg : gA E p q = false := by
          cases hgg : gA E p q with
          | false => rfl
          | true => exact absurd ⟨hgg, hin⟩ hc
        rw [if_neg hin, if_neg (by decide), Md_lineOf_ok hN hW hp12 (by omega), cl_some, gX_not hg]
        unfold fMd_grow_99
        rw [if_pos (by decide), nI_1]
        exact g1
theorem growOut_Y {n : Nat} {E : List (Nat × Nat)} (hW : gW n E) {r b : Nat} (hr : r < n) : ∀ (d i fuel : Nat) (T : tT) (M : zM), 12 - i = d → b ≤ i → i ≤ 12 → d < fuel → tW n T → SY M n T → QY M T b → b ≤ (tO T).length → NetY M n E →
    ∃ M2, fMd_grow_49 fuel (nI r) (nI (i - b)) (nI ((tO T).length - b)) M = some ((), M2) ∧ SY M2 n (tOut E n r d i T) ∧ fr [3, 4, 5, 6, 7] [(0, 10)] M M2 := by
  intro d
  induction d with
  | zero =>
    intro i fuel T M hd hbi hi12 hf hT hS hQ hb hN
    obtain ⟨fuel, rfl⟩ : ∃ k, fuel = k + 1 := ⟨fuel - 1, by omega⟩
    have hn := hW.1.2
    have hlen := hT.len
    refine ⟨M, ?_, hS, fr_rf⟩
    rw [fMd_grow_49, if_pos (nI_le (by omega) (by omega))]
  | succ d ih =>
    intro i fuel T M hd hbi hi12 hf hT hS hQ hb hN
    obtain ⟨fuel, rfl⟩ : ∃ k, fuel = k + 1 := ⟨fuel - 1, by omega⟩
    have hn := hW.1.2
    have hlen := hT.len
    rw [tOut]
    by_cases hi : i < (tO T).length
    · rw [if_pos hi]
      have hp := getD_of hi
      have hpm : (tO T).getD i 0 ∈ tO T := List.mem_of_getElem? hp
      obtain ⟨M1, h1, h2, h2q, hl, h3⟩ := growIn_Y hW (p := (tO T).getD i 0) (r := r) (b := b) hr (k := fMd_grow_49 fuel) (i := nI (i - b) + 1) n 0 FU T M (by omega) (by omega) (by unfold FU; omega) hT hS hQ hb hN hpm
      have hT2 := tIn_W hW (p := (tO T).getD i 0) (r := r) (List.range' 0 n) T (fun x hx => range'_lt hx (by omega)) hT
      obtain ⟨M2, g1, g2, g4⟩ := ih (i + 1) fuel _ M1 (by omega) (by omega) (by omega) (by omega) hT2 h2 h2q (by omega) (frY hN h3 rfl rfl rfl rfl rfl (fun kk => ⟨rfl, rfl⟩))
      refine ⟨M2, ?_, g2, fr_tr h3 g4⟩
      rw [fMd_grow_49, if_neg (nI_ge (by omega) (by omega)), rd_ok (show i - b < 12 by omega) (by decide), hQ (i - b) _ (by rw [show b + (i - b) = i by omega]; exact hp)]
      rw [nI_0] at h1
      rw [h1, nI_1, show i - b + 1 = i + 1 - b by omega]
      exact g1
    · rw [if_neg hi]
      refine ⟨M, ?_, hS, fr_rf⟩
      rw [fMd_grow_49, if_pos (nI_le (by omega) (by omega))]
theorem grow_Y {n : Nat} {E : List (Nat × Nat)} (hW : gW n E) {r : Nat} {T : tT} {M : zM} (hT : tW n T) (hS : SY M n T) (hN : NetY M n E) (hr : r < n) (hno : ¬ r ∈ tO T) :
    ∃ M2, fMd_grow (nI r) M = some ((), M2) ∧ SY M2 n (tOut E n r (12 - (tO T).length) (tO T).length (tNew r T)) ∧ fr [3, 4, 5, 6, 7] [(0, 9), (0, 10)] M M2 := by
  have hn := hW.1.2
  have hT1 := tW_new hT hr hno
  have hlen1 : (tO T).length < 12 := by
    have := hT1.len
    rw [show (tO (tNew r T)) = tO T ++ [r] from rfl, List.length_append] at this
    simp at this
    omega
  have hl1 : (tO (tNew r T)).length = (tO T).length + 1 := by
    show (tO T ++ [r]).length = _
    rw [List.length_append]
    rfl
  have hNl := hT.2.2.2
  obtain ⟨M1, hM1⟩ : ∃ M2 : zM, M2 = zs (zs (zs (zs (zs (zs M 0 9 (nI (tN T + 1))) 4 r (nI r)) 3 r (-1)) 5 r 0) 6 r (-1)) 7 0 (nI r) := ⟨_, rfl⟩
  have a0 : ∀ kk, M1 0 kk = if kk = 9 then nI (tN T + 1) else M 0 kk := by intro kk; rw [hM1]; simp [zs_at]
  have a3 : ∀ kk, M1 3 kk = if kk = r then -1 else M 3 kk := by intro kk; rw [hM1]; simp [zs_at]
  have a4 : ∀ kk, M1 4 kk = if kk = r then nI r else M 4 kk := by intro kk; rw [hM1]; simp [zs_at]
  have a5 : ∀ kk, M1 5 kk = if kk = r then 0 else M 5 kk := by intro kk; rw [hM1]; simp [zs_at]
  have a6 : ∀ kk, M1 6 kk = if kk = r then -1 else M 6 kk := by intro kk; rw [hM1]; simp [zs_at]
  have a7 : ∀ kk, M1 7 kk = if kk = 0 then nI r else M 7 kk := by intro kk; rw [hM1]; simp [zs_at]
  have hfr : fr [3, 4, 5, 6, 7] [(0, 9), (0, 10)] M M1 := by rw [hM1]; exact fr_zs (fr_zs (fr_zs (fr_zs (fr_zs (fr_zp fr_rf rfl) rfl) rfl) rfl) rfl) rfl
  have hstep : fMd_grow (nI r) M = fMd_grow_49 FU (nI r) 0 1 M1 := by
    unfold fMd_grow
    have w0 : ∀ {X : zM} {x : Int32} {K : zM → Option (Unit × zM)}, wr X 7 12 0 x K = K (zs X 7 0 x) := fun {X x K} => wr_ok (j := 0) (by decide) (by decide)
    simp only [wf_eq, wr_ok (show r < 12 by omega) (show 12 < 2 ^ 31 by decide), hS.2.2.1, nI_1, w0]
    rw [← hM1]
  clear hM1
  have hS1 : SY M1 n (tNew r T) := by
    refine ⟨fun qq hqq => ?_, fun qq hqq => ?_, ?_, ?_⟩
    · rw [a4]
      show _ = if qq ∈ tO T ++ [r] then nI (fup (tR T) r r qq) else -1
      by_cases hqe : qq = r
      · subst hqe
        rw [if_pos rfl, if_pos (mem_app1.mpr (Or.inr rfl)), fup_eq]
      · rw [if_neg hqe, fup_ne hqe, hS.1 qq hqq]
        by_cases hin : qq ∈ tO T
        · rw [if_pos hin, if_pos (mem_app1.mpr (Or.inl hin))]
        · rw [if_neg hin, if_neg (fun z => (mem_app1.mp z).elim hin hqe)]
    · rw [a3, a5, a6]
      show _ = oI (fup (tP T) r none qq) ∧ _ = nI (fup (tD T) r 0 qq) ∧ _ = oI (fup (tL T) r none qq) ∧ fup (tR T) r r qq < n
      by_cases hqe : qq = r
      · subst hqe
        rw [if_pos rfl, if_pos rfl, if_pos rfl, fup_eq, fup_eq, fup_eq, fup_eq]
        exact ⟨rfl, rfl, rfl, hr⟩
      · rw [if_neg hqe, if_neg hqe, if_neg hqe, fup_ne hqe, fup_ne hqe, fup_ne hqe, fup_ne hqe]
        rcases mem_app1.mp hqq with h1 | h1
        · exact hS.2.1 qq h1
        · exact absurd h1 hqe
    · rw [a0, if_pos rfl]
      rfl
    · rw [a0, if_neg (by decide), hS.2.2.2, hl1]
      show _ = nI ((tO T).length + 1 - (tN T + 1))
      congr 1
      omega
  have hQ1 : QY M1 (tNew r T) (tO T).length := by
    intro ii qq hii
    have hii : (tO T ++ [r])[(tO T).length + ii]? = some qq := hii
    rw [List.getElem?_append_right (by omega)] at hii
    have hlt := (List.getElem?_eq_some_iff.mp hii).1
    simp at hlt
    subst hlt
    simp at hii
    subst hii
    rw [a7, if_pos rfl]
  obtain ⟨M2, g1, g2, g4⟩ := growOut_Y hW (r := r) (b := (tO T).length) hr (12 - (tO T).length) (tO T).length FU (tNew r T) M1 rfl (by omega) (by omega) (by unfold FU; omega) hT1 hS1 hQ1 (by omega) (frY hN hfr rfl rfl rfl rfl rfl (fun kk => ⟨rfl, rfl⟩))
  refine ⟨M2, ?_, g2, fr_tr hfr (fr_mono g4 (fun _ h => h) (fun q h1 h2 => ?_))⟩
  · rw [hl1, Nat.sub_self, show (tO T).length + 1 - (tO T).length = 1 by omega] at g1
    exact hstep.trans g1
  · simp only [List.contains_cons, List.contains_nil, Bool.or_false, Bool.or_eq_false_iff] at h2 ⊢
    exact h2.2
