/-! PURE: the book: checks -/
theorem nmK_shp {n : Nat} {E : List (Nat × Nat)} (hW : gW n E) {kd q : Nat} (hk : kd < 3) (hq : q < n) : shp kd (nmK n E kd q) := by
  have hn := hW.1.2
  obtain h0 | h0 | h0 : kd = 0 ∨ kd = 1 ∨ kd = 2 := by omega
  · subst h0
    have : (nmA n E n q).length = 2 := by
      unfold nmA
      rw [if_pos hq]
      rfl
    exact ⟨by show (nmA n E n q).length ≤ 2; omega, fun _ => this, fun z => (by cases z), fun z => (by cases z)⟩
  · subst h0
    have h1 : nmK n E 1 q = rowJ n E q := by
      show upto (rowJ n E) n q = _
      unfold upto
      rw [if_pos hq]
    rw [h1]
    have h2 := rowJ_len (E := E) hq
    exact ⟨by show (rowJ n E q).length ≤ 12; omega, fun z => (by cases z), fun _ => (by show 1 ≤ (rg1 _ _ _).length + 1; omega), fun z => (by cases z)⟩
  · subst h0
    have h1 := psF_ok (E := E) hn n (Nat.le_refl _) q
    refine ⟨?_, fun z => (by cases z), fun z => (by cases z), fun _ => ⟨psF n E n q, rfl, fun e he => ?_⟩⟩
    · show (flat (psF n E n q)).length ≤ 24
      rw [flat_len]
      omega
    · have := h1.2 e he
      omega
theorem NmY_row {M : zM} {nm : Nat → List Nat} (h : NmY M nm) {q : Nat} (hq : q < 12) : rowY M q (nm q) := h q hq
def ckS : List Nat → Nat → Int32 → Int32
  | [], _, s => s
  | a :: l, k, s => ckS l (k + 1) (s + nI a * (nI k + 1))
def ckI (l : List Nat) : Int32 := ckS l 0 (7 * nI l.length) - ckS l 0 (7 * nI l.length) / 101 * 101
theorem zmod_101 {α : Type} {x : Int32} {K : Int32 → Option α} : zmod x 101 K = K (x - x / 101 * 101) := by
  unfold zmod
  rw [if_neg (by decide)]
theorem check_X {M : zM} {c0 w : Nat} {nm : Nat → List Nat} (h : NmX M (c0 + 2) w nm) (hw : w ≤ 26) (hz : zln (c0 + 2 + 2) = 12 * w) {q : Nat} (hq : q < 12) : fPage_checkOf c0 (nI q) M = some (ckI (nm q), M) := by
  have hl := (h.2 q hq).2.1
  rw [fPage_checkOf, rd_ok hq (by decide), (h.2 q hq).1, lt_eq]
  refine lpE (f := fun fu k (s : Int32) M => fPage_checkOf_15 fu c0 (nI q) s (nI k) M) (n := (nm q).length)
    (I := fun k s M' => M' = M ∧ ckS (nm q) 0 (7 * nI (nm q).length) = ckS ((nm q).drop k) k s)
    (R := fun o => o = some (ckI (nm q), M)) ?_ ?_ 0 FU (7 * nI (nm q).length) M (by omega) (fu_ok (by omega)) ⟨rfl, rfl⟩
  · rintro fu s M' ⟨rfl, h2⟩
    rw [List.drop_length] at h2
    rw [fPage_checkOf_15, rd_ok hq (by decide), (h.2 q hq).1, if_pos (nI_le (by omega) (by omega)), zmod_101]
    unfold ckI
    rw [h2]
    rfl
  · rintro fu k s M' hk ⟨rfl, h2⟩
    right
    rw [drop_cons (getD_some hk), ckS] at h2
    rw [fPage_checkOf_15, rd_ok hq (by decide), (h.2 q hq).1, if_neg (nI_ge hk (by omega)), num_in h hw hz hq hk, cl_some, lt_eq]
    exact ⟨s + nI ((nm q).getD k 0) * (nI k + 1), M', by rw [← nI_1 k], rfl, h2⟩
def bkR (M : zM) (kd q : Nat) (l : List Nat) : Prop := M 19 (12 * kd + q) = nI l.length ∧ ∀ j x : Nat, l[j]? = some x → M 20 (26 * (12 * kd + q) + j) = nI x
theorem bkR_get {M : zM} {kd q : Nat} {l : List Nat} (h : bkR M kd q l) (hk : kd < 3) (hq : q < 12) (hl : l.length ≤ 26) {j : Nat} (hj : j < l.length) {α : Type} {K : Int32 → Option α} : rd M 20 936 (nI (26 * (12 * kd + q) + j)) K = K (nI (l.getD j 0)) := by
  rw [rd_ok (show 26 * (12 * kd + q) + j < 936 by omega) (by decide), h.2 j _ (getD_some hj)]
theorem bookAt_ok (kd q : Nat) (M : zM) : fMd_bookAt (nI kd) (nI q) M = some (nI (26 * (12 * kd + q)), M) := by
  rw [fMd_bookAt, qlit26, qlit12, nI_times, nI_add, nI_times]
theorem check_Y {M : zM} {kd q : Nat} {l : List Nat} (h : bkR M kd q l) (hk : kd < 3) (hq : q < 12) (hl : l.length ≤ 26) : fMd_checkOf (nI kd) (nI q) M = some (ckI l, M) := by
  rw [fMd_checkOf, qlit12, nI_times, nI_add, rd_ok (show 12 * kd + q < 36 by omega) (by decide), h.1, lt_eq]
  refine lpE (f := fun fu k (s : Int32) M => fMd_checkOf_21 fu (nI kd) (nI q) (nI l.length) s (nI k) M) (n := l.length)
    (I := fun k s M' => M' = M ∧ ckS l 0 (7 * nI l.length) = ckS (l.drop k) k s)
    (R := fun o => o = some (ckI l, M)) ?_ ?_ 0 FU (7 * nI l.length) M (by omega) (fu_ok (by omega)) ⟨rfl, rfl⟩
  · rintro fu s M' ⟨rfl, h2⟩
    rw [List.drop_length] at h2
    rw [fMd_checkOf_21, if_pos (nI_le (by omega) (by omega)), zmod_101]
    unfold ckI
    rw [h2]
    rfl
  · rintro fu k s M' hk2 ⟨rfl, h2⟩
    right
    rw [drop_cons (getD_some hk2), ckS] at h2
    rw [fMd_checkOf_21, if_neg (nI_ge hk2 (by omega)), bookAt_ok, cl_some, nI_add, bkR_get h hk hq hl hk2, lt_eq]
    exact ⟨s + nI (l.getD k 0) * (nI k + 1), M', by rw [← nI_1 k], rfl, h2⟩
theorem ones_ok {m : Nat} (hm : m < 2 ^ 31) (M : zM) : fMd_ones (nI m) M = some (nI (popc m), M) := by
  rw [fMd_ones]
  refine lpE (f := fun fu k (_ : Unit) M => fMd_ones_4 fu (nI m) (nI (fb_ct (fun i => m.testBit i) k)) (nI k) M) (n := 31)
    (I := fun k _ M' => M' = M)
    (R := fun o => o = some (nI (popc m), M)) ?_ ?_ 0 FU () M (by omega) (fu_ok (by omega)) rfl
  · rintro fu - M' rfl
    rw [fMd_ones_4, if_pos (by decide)]
    unfold popc
    rw [fb_ct_succ _ 31, Nat.testBit_lt_two_pow hm]
    rfl
  · rintro fu k - M' hk rfl
    right
    refine ⟨(), M', ?_, rfl⟩
    rw [fMd_ones_4, if_neg (show ¬ (31 : Int32) ≤ nI k from nI_ge (b := 31) hk (by omega)), lt_eq, zbit hm (by omega), bI_nI, nI_add, nI_1, fb_ct_succ]
    cases m.testBit k <;> rfl
/-! the two pictures of the book -/
abbrev bkT : Type := Nat → (Bool × Nat × (Nat → List Nat) × (Nat → Int32))
abbrev bL (B : bkT) (kd : Nat) : Bool := (B kd).1
abbrev bP (B : bkT) (kd : Nat) : Nat := (B kd).2.1
abbrev bN (B : bkT) (kd : Nat) : Nat → List Nat := (B kd).2.2.1
abbrev bC (B : bkT) (kd : Nat) : Nat → Int32 := (B kd).2.2.2
def bkOk (B : bkT) : Prop := ∀ kd, kd < 3 → bP B kd ≤ 12 ∧ (bL B kd = false → bP B kd = 0) ∧ (bL B kd = true → 1 ≤ bP B kd) ∧ ∀ q, q < bP B kd → shp kd (bN B kd q)
def BX (M : zM) (B : bkT) : Prop := ∀ kd, kd < 3 → M (33 + 5 * kd) 0 = bI (bL B kd) ∧ M (35 + 5 * kd) 2 = nI (bP B kd) ∧ M (35 + 5 * kd) 0 = nI kd ∧ NmX M (35 + 5 * kd) (wK kd) (bN B kd) ∧ ∀ q, q < bP B kd → M (34 + 5 * kd) q = bC B kd q
def BY (M : zM) (B : bkT) : Prop := ∀ kd, kd < 3 → M 17 kd = bI (bL B kd) ∧ M 18 kd = nI (bP B kd) ∧ ∀ q, q < bP B kd → bkR M kd q (bN B kd q) ∧ M 21 (12 * kd + q) = bC B kd q
theorem zl_page {kd : Nat} (hk : kd < 3) : zln (35 + 5 * kd + 2) = 12 * wK kd := by
  obtain h0 | h0 | h0 : kd = 0 ∨ kd = 1 ∨ kd = 2 := by omega
  · subst h0; rfl
  · subst h0; rfl
  · subst h0; rfl
theorem zl_row {kd : Nat} (hk : kd < 3) : zln (23 + 3 * kd + 2) = 12 * wK kd := by
  obtain h0 | h0 | h0 : kd = 0 ∨ kd = 1 ∨ kd = 2 := by omega
  · subst h0; rfl
  · subst h0; rfl
  · subst h0; rfl
theorem wK_le (kd : Nat) : wK kd ≤ 24 := by
  unfold wK
  split
  · decide
  · split <;> decide
theorem rr_page {α : Type} {kd : Nat} (hk : kd < 3) (K : Nat → Option α) : rr zRX 32 3 (nI kd) K = K (33 + 5 * kd) := by
  obtain h0 | h0 | h0 : kd = 0 ∨ kd = 1 ∨ kd = 2 := by omega
  · subst h0; rfl
  · subst h0; rfl
  · subst h0; rfl
theorem zNb_row {kd : Nat} (hk : kd < 3) : zNb (23 + 3 * kd) = true := by
  obtain h0 | h0 | h0 : kd = 0 ∨ kd = 1 ∨ kd = 2 := by omega
  · subst h0; rfl
  · subst h0; rfl
  · subst h0; rfl
theorem page_has {M : zM} {B : bkT} (hB : BX M B) (hO : bkOk B) {kd : Nat} (hk : kd < 3) (v : Int32) : fPage_has (33 + 5 * kd) v M = some (bI (zin v (bP B kd)), M) := by
  have h1 := (hB kd hk).2.1
  have h2 := (hO kd hk).1
  rw [fPage_has, show 33 + 5 * kd + 2 = 35 + 5 * kd by omega, h1, two_if, zin_lt (by omega)]
theorem in_book {M : zM} {B : bkT} (hB : BY M B) (hO : bkOk B) {kd : Nat} (hk : kd < 3) (v : Int32) : fMd_isInBook (nI kd) v M = some (bI (zin v (bP B kd)), M) := by
  have h1 := hB kd hk
  have h2 := hO kd hk
  rw [fMd_isInBook, rd_ok hk (by decide), h1.1]
  cases hL : bL B kd with
  | false =>
    rw [bI_f, if_pos rfl, zbl_0, h2.2.1 hL]
    have : zin v 0 = false := by
      unfold zin
      simp
    rw [this]
    rfl
  | true =>
    rw [bI_t, if_neg (by decide), rd_ok hk (by decide), h1.2.1, show (0 : Int64) = (0 : Int32).toInt64 from rfl, in_I, cl_some, zin_sub (by omega)]
    cases zin v (bP B kd) <;> simp [bI, zbl_0, zbl_1]
theorem named_X (v : Int32) (M : zM) : fNN_isNamedKind v M = some (bI (zin v 3), M) := by
  rw [fNN_isNamedKind, zin_lt (by decide)]
  exact two_if
theorem named_Y (v : Int32) (M : zM) : fMd_in v.toInt64 0 2 M = some (bI (zin v 3), M) := by
  have := zin_sub (v := v) (k := 3) (by decide)
  rw [show (0 : Int64) = (0 : Int32).toInt64 from rfl, show (2 : Int64) = (2 : Int32).toInt64 from rfl, in_I, ← this]
  rfl
