/-! PURE: small methods of both -/
theorem zin_lt {v : Int32} {n : Nat} (hn : n < 2 ^ 31) : zin v n = (!decide (v < 0) && !decide (nI n ≤ v)) := by
  rw [Bool.eq_iff_iff]
  simp only [zin, Bool.and_eq_true, decide_eq_true_eq, Bool.not_eq_true', decide_eq_false_iff_not, fa_lt, fa_le, nI_toInt hn, Int32.toInt_zero]
  omega
theorem zin_sub {v : Int32} {k : Nat} (hk : k < 2 ^ 31) : (decide (0 ≤ v) && decide (v ≤ nI k - 1)) = zin v k := by
  have h1 : (nI k - 1).toInt = (k : Int) - 1 := by
    rw [fb_subI]
    · rw [nI_toInt hk]; rfl
    · rw [nI_toInt hk, show (1 : Int32).toInt = 1 from rfl]; omega
    · rw [nI_toInt hk, show (1 : Int32).toInt = 1 from rfl]; omega
  rw [Bool.eq_iff_iff]
  simp only [zin, Bool.and_eq_true, decide_eq_true_eq, fa_le, h1, Int32.toInt_zero]
  omega
theorem zin_ex {v : Int32} {n : Nat} (h : zin v n = true) (hn : n < 2 ^ 31) : ∃ j : Nat, j < n ∧ v = nI j := by
  obtain ⟨j, h1, h2, _⟩ := zin_of h hn
  exact ⟨j, h1, h2⟩
theorem zin_nI_iff {j n : Nat} (hj : j < 2 ^ 31) : zin (nI j) n = decide (j < n) := by
  rw [Bool.eq_iff_iff]
  simp only [zin, Bool.and_eq_true, decide_eq_true_eq, nI_toInt hj]
  omega
theorem two_if {c d : Prop} [Decidable c] [Decidable d] {M : zM} : (if c then zbl 0 (some ((0 : Int32), M)) else if d then zbl 0 (some (0, M)) else zbl 1 (some (1, M))) = some (bI (!decide c && !decide d), M) := by
  by_cases hc : c <;> by_cases hd : d <;> simp [hc, hd, zbl_0, zbl_1, bI]
theorem hasPost_ok {M : zM} {n : Nat} {E : List (Nat × Nat)} (hN : NetX M n E) (hW : gW n E) (v : Int32) : fNet_hasPost v M = some (bI (zin v n), M) := by
  unfold fNet_hasPost
  rw [two_if, hN.1, zin_lt (by have := hW.1.2; omega)]
theorem hasLine_ok {M : zM} {n : Nat} {E : List (Nat × Nat)} (hN : NetX M n E) (hW : gW n E) (v : Int32) : fNet_hasLine v M = some (bI (zin v E.length), M) := by
  unfold fNet_hasLine
  rw [two_if, hN.2.1, zin_lt (by have := hW.2.1; omega)]
theorem hasPosts_ok {M : zM} {n : Nat} {E : List (Nat × Nat)} (hN : NetX M n E) (hW : gW n E) (v w : Int32) : fNet_hasPosts v w M = some (bI (zin v n && zin w n), M) := by
  unfold fNet_hasPosts
  rw [hasPost_ok hN hW, cl_some, hasPost_ok hN hW, cl_some]
  cases zin v n <;> cases zin w n <;> simp [bI, zbl_0, zbl_1]
theorem joins_ok {M : zM} {n : Nat} {E : List (Nat × Nat)} (hN : NetX M n E) {a b : Nat} (ha : a < 12) (hb : b < 12) : fNet_joins (nI a) (nI b) M = some (bI (gA E a b), M) := by
  unfold fNet_joins
  rw [rd_ok ha (by decide), hN.2.2.2 a ha, zbit (Nat.lt_trans (mkM_lt _ _) (by decide)) (by omega), mkM_bit]
  simp only [hb, decide_true, Bool.true_and]
  cases gA E a b <;> simp [bI, zbl_0, zbl_1]
/-- how many lines a post has -/
def gD (E : List (Nat × Nat)) (p : Nat) : Nat := fb_ct (fun q => gA E p q) 12
theorem gD_le (E : List (Nat × Nat)) (p : Nat) : gD E p ≤ 12 := fb_ct_le _ _
theorem popc_mk (f : Nat → Bool) {k : Nat} (hk : k ≤ 32) : popc (mkM f k) = fb_ct f k := by
  unfold popc
  have h0 := fb_ct_split (fun i => (mkM f k).testBit i) k (32 - k)
  rw [show k + (32 - k) = 32 by omega] at h0
  rw [h0]
  have h1 : fb_ct (fun i => (mkM f k).testBit i) k = fb_ct f k := fb_ct_cong (fun i hi => by rw [mkM_bit]; simp [hi])
  have h2 : fb_ct (fun i => (mkM f k).testBit (k + i)) (32 - k) = 0 := fb_ct_zero.mpr (fun i _ => by rw [mkM_bit]; simp [show ¬ k + i < k by omega])
  rw [h1, h2]
  omega
theorem degree_ok {M : zM} {n : Nat} {E : List (Nat × Nat)} (hN : NetX M n E) {p : Nat} (hp : p < 12) : fNet_degree (nI p) M = some (nI (gD E p), M) := by
  unfold fNet_degree
  rw [rd_ok hp (by decide), hN.2.2.2 p hp, bitCount_ok (Nat.lt_trans (mkM_lt _ _) (by decide)), cl_some, popc_mk _ (by decide)]
  rfl
/-! the reference -/
theorem lg_lt {x y : Int64} : lg_cmp x y < 0 ↔ x < y := by
  unfold lg_cmp
  by_cases h1 : x > y
  · have : ¬ x < y := by rw [fa_lt64] at *; have h1 : y < x := h1; rw [fa_lt64] at h1; omega
    simp only [h1, if_true, this, iff_false]
    decide
  · by_cases h2 : x = y
    · subst h2
      have : ¬ x < x := by rw [fa_lt64]; omega
      simp only [h1, if_false, if_true, this, iff_false]
      decide
    · have : x < y := by
        have h1 : ¬ y < x := h1
        rw [fa_lt64] at h1 ⊢
        rw [fa_eq64] at h2
        omega
      simp only [h1, h2, if_false, this, iff_true]
      decide
theorem lg_gt {x y : Int64} : 0 < lg_cmp x y ↔ y < x := by
  unfold lg_cmp
  by_cases h1 : x > y
  · have h1' : y < x := h1
    simp only [h1, if_true, h1', iff_true]
    decide
  · have h1' : ¬ y < x := h1
    by_cases h2 : x = y
    · simp only [h1, h2, if_false, if_true, iff_false]
      subst h2
      simp only [h1', iff_false]
      decide
    · simp only [h1, h2, if_false, h1', iff_false]
      decide
theorem in_ok (v lo hi : Int64) (M : zM) : fMd_in v lo hi M = some (bI (decide (lo ≤ v) && decide (v ≤ hi)), M) := by
  unfold fMd_in
  rw [two_if]
  congr 3
  rw [Bool.eq_iff_iff]
  simp only [Bool.and_eq_true, Bool.not_eq_true', decide_eq_false_iff_not, decide_eq_true_eq, lg_lt, lg_gt, fa_lt64, fa_le64]
  omega
theorem in_I (v lo hi : Int32) (M : zM) : fMd_in v.toInt64 lo.toInt64 hi.toInt64 M = some (bI (decide (lo ≤ v) && decide (v ≤ hi)), M) := by
  rw [in_ok]
  simp only [fa_wide_le]
theorem noPost_ok {M : zM} {n : Nat} {E : List (Nat × Nat)} (hN : NetY M n E) (hW : gW n E) (v : Int32) : fMd_noPost v M = some (bI (!zin v n), M) := by
  unfold fMd_noPost
  rw [show (0 : Int64) = (0 : Int32).toInt64 from rfl, in_I, cl_some, hN.1, zin_sub (by have := hW.1.2; omega)]
  cases zin v n <;> simp [bI, zbl_0, zbl_1]
theorem noLine_ok {M : zM} {n : Nat} {E : List (Nat × Nat)} (hN : NetY M n E) (hW : gW n E) (v : Int32) : fMd_noLine v M = some (bI (!zin v E.length), M) := by
  unfold fMd_noLine
  rw [show (0 : Int64) = (0 : Int32).toInt64 from rfl, in_I, cl_some, hN.2.1, zin_sub (by have := hW.2.1; omega)]
  cases zin v E.length <;> simp [bI, zbl_0, zbl_1]
theorem bit_ok (b : Bool) (M : zM) : fMd_bit (bI b) M = some (bI b, M) := by
  unfold fMd_bit
  cases b <;> simp [bI]
def gT (p : Nat) (e : Nat × Nat) : Bool := decide (e.1 = p) || decide (e.2 = p)
theorem tree2 {α : Type} (P1 P2 : Prop) [Decidable P1] [Decidable P2] (f : Int32 → α) : (if P1 then f 1 else if ¬ P2 then f 0 else f 1) = f (bI (decide P1 || decide P2)) := by
  by_cases h1 : P1 <;> by_cases h2 : P2 <;> simp [h1, h2, bI]
theorem Md_degree_loop {M : zM} {n : Nat} {E : List (Nat × Nat)} (hN : NetY M n E) (hW : gW n E) {p : Nat} (hp : p < 12) : ∀ (d i k fuel : Nat), E.length - i = d → i ≤ E.length → d < fuel → fMd_degree_4 fuel (nI p) (nI k) (nI i) M = some (nI (k + ((E.drop i).filter (gT p)).length), M) := by
  intro d
  induction d with
  | zero =>
    intro i k fuel hd hi hf
    obtain ⟨fuel, rfl⟩ : ∃ k, fuel = k + 1 := ⟨fuel - 1, by omega⟩
    have : i = E.length := by omega
    subst this
    rw [fMd_degree_4, if_pos (by rw [hN.2.1]; exact nI_le (Nat.le_refl _) (by have := hW.2.1; omega))]
    simp
  | succ d ih =>
    intro i k fuel hd hi hf
    obtain ⟨fuel, rfl⟩ : ∃ k, fuel = k + 1 := ⟨fuel - 1, by omega⟩
    have hlt : i < E.length := by omega
    obtain ⟨e, he⟩ : ∃ e, E[i]? = some e := ⟨_, List.getElem?_eq_getElem hlt⟩
    have hg := hW.get he
    have hm := hN.2.2 i e he
    have hn12 := hW.1.2
    have hl30 := hW.2.1
    have r : ∀ {c : Nat} {K : Int32 → Option (Int32 × zM)}, rd M c 30 (nI i) K = K (M c i) := rd_ok hg.1 (by decide)
    have q1 : (nI e.1 = nI p) ↔ e.1 = p := nI_eq (by omega) (by omega)
    have q2 : (nI e.2 = nI p) ↔ e.2 = p := nI_eq (by omega) (by omega)
    rw [fMd_degree_4, if_neg (by rw [hN.2.1]; exact nI_ge hlt (by omega)), drop_cons he]
    simp only [r, hm.1, hm.2, q1, q2]
    rw [tree2 (e.1 = p) (e.2 = p) (fun x => fMd_degree_38 (fMd_degree_4 fuel) (nI p) (nI i) x (nI k) M)]
    unfold fMd_degree_38
    rw [bit_ok, cl_some, lt_eq, bI_nI, nI_add, nI_1, ih (i + 1) _ fuel (by omega) (by omega) (by omega), List.filter_cons]
    show _ = some (nI (k + (if gT p e = true then _ else _ : List (Nat × Nat)).length), M)
    unfold gT
    cases hs : (decide (e.1 = p) || decide (e.2 = p))
    · simp
    · simp only [Bool.toNat_true, if_true, List.length_cons]
      congr 3
      omega
theorem gA_cons (e : Nat × Nat) (E : List (Nat × Nat)) (a b : Nat) : gA (e :: E) a b = (gS a b e || gA E a b) := rfl
theorem gD_count {n : Nat} : ∀ {E : List (Nat × Nat)} {p : Nat}, n ≤ 12 → (∀ e ∈ E, e.1 < n ∧ e.2 < n ∧ e.1 ≠ e.2) → E.Pairwise (fun e f => gS e.1 e.2 f = false) → (E.filter (gT p)).length = gD E p
  | [], p, _, _, _ => by
    have : gD [] p = 0 := fb_ct_zero.mpr (fun k _ => rfl)
    rw [this]
    rfl
  | e :: E, p, hn, h1, h2 => by
    have ih := gD_count (E := E) (p := p) hn (fun x hx => h1 x (List.mem_cons_of_mem _ hx)) (List.pairwise_cons.mp h2).2
    have he := h1 e List.mem_cons_self
    have hfr : gA E e.1 e.2 = false := by
      unfold gA
      rw [List.any_eq_false]
      intro f hf
      rw [(List.pairwise_cons.mp h2).1 f hf]
      decide
    rw [List.filter_cons]
    unfold gT
    by_cases hp1 : e.1 = p
    · have hfun : (fun q => gA (e :: E) p q) = fun q => if q = e.2 then true else gA E p q := by
        funext q
        rw [gA_cons]
        unfold gS
        by_cases hq : q = e.2
        · simp [hp1, hq]
        · have : ¬ e.2 = q := fun z => hq z.symm
          have h5 : ¬ (e.1 = q ∧ e.2 = p) := fun z => he.2.2 (hp1.trans z.2.symm)
          rw [if_neg hq]
          by_cases h6 : e.2 = p
          · exact absurd (hp1.trans h6.symm) he.2.2
          · simp [hp1, this, h6]
      have h3 := fb_ct_upd (fun q => gA E p q) true (i := e.2) (n := 12) (by omega)
      have h4 : gA E p e.2 = false := by rw [← hp1]; exact hfr
      simp only [h4, Bool.false_eq_true, if_false, if_true] at h3
      unfold gD at ih ⊢
      rw [hfun, if_pos (by simp [hp1]), List.length_cons]
      unfold gT at ih
      omega
    · by_cases hp2 : e.2 = p
      · have hfun : (fun q => gA (e :: E) p q) = fun q => if q = e.1 then true else gA E p q := by
          funext q
          rw [gA_cons]
          unfold gS
          by_cases hq : q = e.1
          · simp [hp2, hq]
          · have : ¬ e.1 = q := fun z => hq z.symm
            rw [if_neg hq]
            simp [hp1, this]
        have h3 := fb_ct_upd (fun q => gA E p q) true (i := e.1) (n := 12) (by omega)
        have h4 : gA E p e.1 = false := by rw [← hp2, gA_comm]; exact hfr
        simp only [h4, Bool.false_eq_true, if_false, if_true] at h3
        unfold gD at ih ⊢
        rw [hfun, if_pos (by simp [hp2]), List.length_cons]
        unfold gT at ih
        omega
      · have hfun : (fun q => gA (e :: E) p q) = fun q => gA E p q := by
          funext q
          rw [gA_cons]
          unfold gS
          simp [hp1, hp2]
        unfold gD at ih ⊢
        rw [hfun, if_neg (by simp [hp1, hp2])]
        exact ih
theorem Md_degree_ok {M : zM} {n : Nat} {E : List (Nat × Nat)} (hN : NetY M n E) (hW : gW n E) {p : Nat} (hp : p < 12) : fMd_degree (nI p) M = some (nI (gD E p), M) := by
  unfold fMd_degree
  have h := Md_degree_loop hN hW hp E.length 0 0 FU (by omega) (by omega) (by have := hW.2.1; unfold FU; omega)
  rw [nI_0] at h
  rw [h, List.drop_zero, gD_count hW.1.2 hW.2.2.1 hW.2.2.2, Nat.zero_add]
