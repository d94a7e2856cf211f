/-! PURE: the reference's cut; step cut -/
section cyS
variable {n : Nat} {E : List (Nat × Nat)}
/-- at this many lines a set parts if it works itself -/
theorem chk_Y {M M' : zM} (hW : gW n E) (hN : NetY M n E) (hS : SY M n (gTree n E)) {a b : Nat} (ha : a < n) (hb : b < n) (hr : tR (gTree n E) a = tR (gTree n E) b) {many : Nat} (hm : many ≤ 3) (hH : ∀ w, w < 2 ^ E.length → wk n E a b w = true → many ≤ popc w) {s : Nat} (hs : s < 2 ^ E.length) (hp : popc s ≤ many) (hf : fq (fun c _ => c = 16) M M') :
    ∃ M2, fMd_isParted (nI a) (nI b) (nI s) M' = some (bI (wk n E a b s), M2) ∧ fq (fun c _ => c = 16) M M2 := by
  have hl := hW.2.1
  have hs32 : s < 2 ^ 32 := Nat.lt_of_lt_of_le hs (Nat.pow_le_pow_right (by decide) (by omega))
  obtain ⟨r, M2, b1, b2, b3⟩ := isParted_Y hW (fq_netY hf hN (fun k => by omega)) (SY.fq hS hf (fun k => by omega)) ha hb hs (by
    have h1 : fb_ct (fun i => s.testBit i) E.length ≤ popc s := fb_ct_mono _ (by omega)
    omega)
  refine ⟨M2, ?_, fq_tr hf b3⟩
  have : r = wk n E a b s := by
    rw [Bool.eq_iff_iff, b2]
    constructor
    · rintro (z | ⟨w, w1, w2⟩)
      · exact absurd hr z
      · have hwl : w < 2 ^ E.length := by rw [← w1, Nat.and_comm]; exact and_lt hs
        have := hH w hwl w2
        have := sub_same hs32 w1 (by omega)
        rw [← this]
        exact w2
    · intro z
      exact Or.inr ⟨s, Nat.and_self s, z⟩
  rw [b1, this]
theorem or3_lt {len i j k : Nat} (hi : i < len) (hj : j < len) (hk : k < len) : 2 ^ i ||| 2 ^ j ||| 2 ^ k < 2 ^ len := or_lt (or_lt (pow_ltk hi) (pow_ltk hj)) (pow_ltk hk)
theorem popc_1 {i : Nat} (hi : i < 32) : popc (2 ^ i) = 1 := by
  have h0 : popc 0 = 0 := by decide
  have := popc_or (m := 0) hi (by simp)
  rw [Nat.zero_or] at this
  omega
theorem popc_le_or (m l : Nat) (hl : l < 32) : popc (m ||| 2 ^ l) ≤ popc m + 1 := by
  cases h : m.testBit l with
  | false => rw [popc_or hl h]; exact Nat.le_refl _
  | true =>
    have : m ||| 2 ^ l = m := by
      apply Nat.eq_of_testBit_eq
      intro i
      rw [fb_bit_set]
      by_cases hi : i = l
      · simp [hi, h]
      · simp [hi]
    rw [this]
    omega
theorem or3_I {i j k : Nat} (hi : i < 31) (hj : j < 31) (hk : k < 31) : ((zshl 1 (nI i)) ||| (zshl 1 (nI j))) ||| (zshl 1 (nI k)) = nI (2 ^ i ||| 2 ^ j ||| 2 ^ k) := by
  rw [zshl_pow hi, zshl_pow hj, zshl_pow hk, fa_or, fa_or]
/-- one look at a set -/
theorem cut1_Y {M M' : zM} {a b : Nat} {many i j k : Nat} (hlen : E.length ≤ 30) (hi : i < E.length) (hj : j < E.length) (hk : k < E.length) {k80 : Int32 → Int32 → Int32 → Int32 → Int32 → zM → Option (Int32 × zM)} {k117 : Int32 → Int32 → Int32 → Int32 → Int32 → Int32 → zM → Option (Int32 × zM)} {bnd : Nat} (hb2 : bnd ≤ 31) (hkb : k < bnd)
    (hc : ∃ M2, fMd_isParted (nI a) (nI b) (nI (2 ^ i ||| 2 ^ j ||| 2 ^ k)) M' = some (bI (wk n E a b (2 ^ i ||| 2 ^ j ||| 2 ^ k)), M2) ∧ fq (fun c _ => c = 16) M M2) :
    ∃ M2, fMd_cut_135 k80 k117 (nI a) (nI b) (nI many) (nI i) (nI j) (nI k) (nI bnd) (nI k) M' = (if wk n E a b (2 ^ i ||| 2 ^ j ||| 2 ^ k) = true then some (nI (2 ^ i ||| 2 ^ j ||| 2 ^ k), M2) else k117 (nI a) (nI b) (nI many) (nI i) (nI j) (nI (k + 1)) M2) ∧ fq (fun c _ => c = 16) M M2 := by
  obtain ⟨M2, c1, c2⟩ := hc
  refine ⟨M2, ?_, c2⟩
  rw [fMd_cut_135, if_neg (nI_ge hkb (by omega)), lt_eq, or3_I (by omega) (by omega) (by omega), c1, cl_some, nI_1]
  cases wk n E a b (2 ^ i ||| 2 ^ j ||| 2 ^ k) with
  | false => rw [bI_f, if_pos rfl, if_neg (by decide)]
  | true => rw [bI_t, if_neg (by decide), if_pos rfl]
theorem cutEnd_Y {a b : Int32} {many i j k bnd : Nat} {M : zM} {k80 : Int32 → Int32 → Int32 → Int32 → Int32 → zM → Option (Int32 × zM)} {k117 : Int32 → Int32 → Int32 → Int32 → Int32 → Int32 → zM → Option (Int32 × zM)} (hb2 : bnd ≤ 40) (hk : k ≤ 40) (h : bnd ≤ k) : fMd_cut_135 k80 k117 a b (nI many) (nI i) (nI j) (nI k) (nI bnd) (nI k) M = k80 a b (nI many) (nI i) (nI (j + 1)) M := by
  rw [fMd_cut_135, if_pos (nI_le h (by omega)), nI_1]
/-- k stands where j stands, for one and two lines -/
theorem cutS_Y {M M' : zM} {a b : Nat} {many i j : Nat} (hm : many ≤ 2) (hlen : E.length ≤ 30) (hi : i < E.length) (hj : j < E.length) {k80 : Int32 → Int32 → Int32 → Int32 → Int32 → zM → Option (Int32 × zM)}
    (hc : ∃ M2, fMd_isParted (nI a) (nI b) (nI (2 ^ i ||| 2 ^ j ||| 2 ^ j)) M' = some (bI (wk n E a b (2 ^ i ||| 2 ^ j ||| 2 ^ j)), M2) ∧ fq (fun c _ => c = 16) M M2) :
    ∃ M2, fMd_cut_117 k80 FU (nI a) (nI b) (nI many) (nI i) (nI j) (nI j) M' = (if wk n E a b (2 ^ i ||| 2 ^ j ||| 2 ^ j) = true then some (nI (2 ^ i ||| 2 ^ j ||| 2 ^ j), M2) else k80 (nI a) (nI b) (nI many) (nI i) (nI (j + 1)) M2) ∧ fq (fun c _ => c = 16) M M2 := by
  obtain ⟨M2, e1, e2⟩ := cut1_Y (n := n) (many := many) (k80 := k80) (k117 := fMd_cut_117 k80 4999) (bnd := j + 1) hlen hi hj hj (by omega) (by omega) hc
  refine ⟨M2, ?_, e2⟩
  rw [show FU = 4999 + 1 from rfl, fMd_cut_117, if_pos (show nI many ≤ 2 from nI_le (b := 2) hm (by omega)), nI_1, e1]
  cases wk n E a b (2 ^ i ||| 2 ^ j ||| 2 ^ j) with
  | true => rw [if_pos rfl, if_pos rfl]
  | false =>
    rw [if_neg (by decide), if_neg (by decide), show (4999 : Nat) = 4998 + 1 from rfl, fMd_cut_117, if_pos (show nI many ≤ 2 from nI_le (b := 2) hm (by omega)), nI_1, cutEnd_Y (by omega) (by omega) (Nat.le_refl _)]
theorem or_dup (a b : Nat) : a ||| b ||| b = a ||| b := by rw [Nat.or_assoc, Nat.or_self]
/-! the three levels: either found, or on -/
theorem lv1_Y {M M0 : zM} {a b : Nat} (hlen : E.length ≤ 30) (hN : NetY M n E) (h0 : fq (fun c _ => c = 16) M M0) {k47 : Int32 → Int32 → Int32 → zM → Option (Int32 × zM)}
    (hc : ∀ i j k M', i < E.length → j < E.length → k < E.length → popc (2 ^ i ||| 2 ^ j ||| 2 ^ k) ≤ 1 → fq (fun c _ => c = 16) M M' → ∃ M2, fMd_isParted (nI a) (nI b) (nI (2 ^ i ||| 2 ^ j ||| 2 ^ k)) M' = some (bI (wk n E a b (2 ^ i ||| 2 ^ j ||| 2 ^ k)), M2) ∧ fq (fun c _ => c = 16) M M2) :
    ∃ M2, fMd_cut_55 k47 FU (nI a) (nI b) (nI 1) 0 M0 = (match srK (wk n E a b) E.length 1 0 0 with
      | some ls => some (nI (mkL ls), M2)
      | none => k47 (nI a) (nI b) (nI 2) M2) ∧ fq (fun c _ => c = 16) M M2 := by
  refine lpE (f := fun fu i (_ : Unit) M => fMd_cut_55 k47 fu (nI a) (nI b) (nI 1) (nI i) M) (n := E.length)
    (I := fun i _ M' => fq (fun c _ => c = 16) M M' ∧ srK (wk n E a b) E.length 1 0 0 = srW (srK (wk n E a b) E.length 0) (E.length - i) i 0)
    (R := fun o => ∃ M2, o = (match srK (wk n E a b) E.length 1 0 0 with
      | some ls => some (nI (mkL ls), M2)
      | none => k47 (nI a) (nI b) (nI 2) M2) ∧ fq (fun c _ => c = 16) M M2) ?_ ?_ 0 FU () M0 (by omega) (fu_ok (by omega)) ⟨h0, rfl⟩
  · rintro fu - M' ⟨h1, h2⟩
    rw [Nat.sub_self] at h2
    have h2 : srK (wk n E a b) E.length 1 0 0 = none := h2
    refine ⟨M', ?_, h1⟩
    rw [fMd_cut_55, h1 0 1 (by omega), hN.2.1, if_pos (nI_le (by omega) (by omega)), h2]
    rfl
  · rintro fu i - M' hi ⟨h1, h2⟩
    have e111 : 2 ^ i ||| 2 ^ i ||| 2 ^ i = 2 ^ i := by rw [or_dup, Nat.or_self]
    obtain ⟨M2, e1, e2⟩ := cutS_Y (n := n) (many := 1) (k80 := fMd_cut_80 (fMd_cut_55 k47 fu) 4999) (by decide) hlen hi hi (hc i i i M' hi hi hi (by rw [e111, popc_1 (by omega)]; decide) h1)
    rw [e111] at e1
    have e80 : fMd_cut_55 k47 (fu + 1) (nI a) (nI b) (nI 1) (nI i) M' = (if wk n E a b (2 ^ i) = true then some (nI (2 ^ i), M2) else fMd_cut_80 (fMd_cut_55 k47 fu) 4999 (nI a) (nI b) (nI 1) (nI i) (nI (i + 1)) M2) := by
      rw [fMd_cut_55, h1 0 1 (by omega), hN.2.1, if_neg (nI_ge hi (by omega)), if_pos (by decide), show FU = 4999 + 1 from rfl, fMd_cut_80, if_pos (by decide), nI_1, fMd_cut_98, if_neg (nI_ge (by omega) (by omega)), if_pos (by decide), e1]
    have hs : srK (wk n E a b) E.length 0 (i + 1) (0 ||| 2 ^ i) = if wk n E a b (2 ^ i) = true then some [] else none := by rw [srK, Nat.zero_or]
    show _ ∨ ∃ s2 M2, fMd_cut_55 k47 (fu + 1) (nI a) (nI b) (nI 1) (nI i) M' = _ ∧ _
    rw [e80]
    cases hw : wk n E a b (2 ^ i) with
    | true =>
      left
      rw [hw, if_pos rfl] at hs
      refine ⟨M2, ?_, e2⟩
      rw [h2, srW_hit hi hs, if_pos rfl]
      show some (nI (2 ^ i), M2) = some (nI (0 ||| 2 ^ i), M2)
      rw [Nat.zero_or]
    | false =>
      right
      rw [hw, if_neg (by decide)] at hs
      refine ⟨(), M2, ?_, e2, by rw [h2, srW_miss hi hs]⟩
      rw [if_neg (by decide), show (4999 : Nat) = 4998 + 1 from rfl, fMd_cut_80, if_pos (by decide), nI_1, fMd_cut_98, if_pos (nI_le (Nat.le_refl _) (by omega)), nI_1]
theorem lv2_Y {M M0 : zM} {a b : Nat} (hlen : E.length ≤ 30) (hN : NetY M n E) (h0 : fq (fun c _ => c = 16) M M0) {k47 : Int32 → Int32 → Int32 → zM → Option (Int32 × zM)}
    (hc : ∀ i j k M', i < E.length → j < E.length → k < E.length → popc (2 ^ i ||| 2 ^ j ||| 2 ^ k) ≤ 2 → fq (fun c _ => c = 16) M M' → ∃ M2, fMd_isParted (nI a) (nI b) (nI (2 ^ i ||| 2 ^ j ||| 2 ^ k)) M' = some (bI (wk n E a b (2 ^ i ||| 2 ^ j ||| 2 ^ k)), M2) ∧ fq (fun c _ => c = 16) M M2) :
    ∃ M2, fMd_cut_55 k47 FU (nI a) (nI b) (nI 2) 0 M0 = (match srK (wk n E a b) E.length 2 0 0 with
      | some ls => some (nI (mkL ls), M2)
      | none => k47 (nI a) (nI b) (nI 3) M2) ∧ fq (fun c _ => c = 16) M M2 := by
  refine lpE (f := fun fu i (_ : Unit) M => fMd_cut_55 k47 fu (nI a) (nI b) (nI 2) (nI i) M) (n := E.length)
    (I := fun i _ M' => fq (fun c _ => c = 16) M M' ∧ srK (wk n E a b) E.length 2 0 0 = srW (srK (wk n E a b) E.length 1) (E.length - i) i 0)
    (R := fun o => ∃ M2, o = (match srK (wk n E a b) E.length 2 0 0 with
      | some ls => some (nI (mkL ls), M2)
      | none => k47 (nI a) (nI b) (nI 3) M2) ∧ fq (fun c _ => c = 16) M M2) ?_ ?_ 0 FU () M0 (by omega) (fu_ok (by omega)) ⟨h0, rfl⟩
  · rintro fu - M' ⟨h1, h2⟩
    rw [Nat.sub_self] at h2
    have h2 : srK (wk n E a b) E.length 2 0 0 = none := h2
    refine ⟨M', ?_, h1⟩
    rw [fMd_cut_55, h1 0 1 (by omega), hN.2.1, if_pos (nI_le (by omega) (by omega)), h2]
    rfl
  · rintro fu i - M' hi ⟨h1, h2⟩
    have jl : ∃ M2, fMd_cut_80 (fMd_cut_55 k47 fu) FU (nI a) (nI b) (nI 2) (nI i) (nI (i + 1)) M' = (match srK (wk n E a b) E.length 1 (i + 1) (2 ^ i) with
        | some ls => some (nI (mkL (i :: ls)), M2)
        | none => fMd_cut_55 k47 fu (nI a) (nI b) (nI 2) (nI (i + 1)) M2) ∧ fq (fun c _ => c = 16) M M2 := by
      have := lpE (f := fun fu2 x (_ : Unit) M => fMd_cut_80 (fMd_cut_55 k47 fu) fu2 (nI a) (nI b) (nI 2) (nI i) (nI (i + 1 + x)) M) (n := E.length - (i + 1))
        (I := fun x _ M' => fq (fun c _ => c = 16) M M' ∧ srK (wk n E a b) E.length 1 (i + 1) (2 ^ i) = srW (srK (wk n E a b) E.length 0) (E.length - (i + 1 + x)) (i + 1 + x) (2 ^ i))
        (R := fun o => ∃ M2, o = (match srK (wk n E a b) E.length 1 (i + 1) (2 ^ i) with
          | some ls => some (nI (mkL (i :: ls)), M2)
          | none => fMd_cut_55 k47 fu (nI a) (nI b) (nI 2) (nI (i + 1)) M2) ∧ fq (fun c _ => c = 16) M M2) ?_ ?_ 0 FU () M' (Nat.zero_le _) (fu_ok (by omega)) ⟨h1, rfl⟩
      · exact this
      · rintro fu2 - M3 ⟨g1, g2⟩
        rw [show i + 1 + (E.length - (i + 1)) = E.length by omega, Nat.sub_self] at g2
        have g2 : srK (wk n E a b) E.length 1 (i + 1) (2 ^ i) = none := g2
        refine ⟨M3, ?_, g1⟩
        rw [show i + 1 + (E.length - (i + 1)) = E.length by omega, fMd_cut_80, if_neg (by decide), g1 0 1 (by omega), hN.2.1, fMd_cut_98, if_pos (nI_le (Nat.le_refl _) (by omega)), nI_1, g2]
      · rintro fu2 x - M3 hx ⟨g1, g2⟩
        have hj : i + 1 + x < E.length := by omega
        obtain ⟨M4, e1, e2⟩ := cutS_Y (n := n) (many := 2) (k80 := fMd_cut_80 (fMd_cut_55 k47 fu) fu2) (by decide) hlen hi hj (hc i (i + 1 + x) (i + 1 + x) M3 hi hj hj (by rw [or_dup]; have := popc_le_or (2 ^ i) (i + 1 + x) (by omega); rw [popc_1 (show i < 32 by omega)] at this; exact this) g1)
        rw [or_dup] at e1
        have e80 : fMd_cut_80 (fMd_cut_55 k47 fu) (fu2 + 1) (nI a) (nI b) (nI 2) (nI i) (nI (i + 1 + x)) M3 = (if wk n E a b (2 ^ i ||| 2 ^ (i + 1 + x)) = true then some (nI (2 ^ i ||| 2 ^ (i + 1 + x)), M4) else fMd_cut_80 (fMd_cut_55 k47 fu) fu2 (nI a) (nI b) (nI 2) (nI i) (nI (i + 1 + x + 1)) M4) := by
          rw [fMd_cut_80, if_neg (by decide), g1 0 1 (by omega), hN.2.1, fMd_cut_98, if_neg (nI_ge hj (by omega)), if_pos (by decide), e1]
        have hs : srK (wk n E a b) E.length 0 (i + 1 + x + 1) (2 ^ i ||| 2 ^ (i + 1 + x)) = if wk n E a b (2 ^ i ||| 2 ^ (i + 1 + x)) = true then some [] else none := by rw [srK]
        show _ ∨ ∃ s2 M2, fMd_cut_80 (fMd_cut_55 k47 fu) (fu2 + 1) (nI a) (nI b) (nI 2) (nI i) (nI (i + 1 + x)) M3 = _ ∧ _
        rw [e80]
        cases hw : wk n E a b (2 ^ i ||| 2 ^ (i + 1 + x)) with
        | true =>
          left
          rw [hw, if_pos rfl] at hs
          refine ⟨M4, ?_, e2⟩
          rw [g2, srW_hit hj hs, if_pos rfl]
          show some (nI (2 ^ i ||| 2 ^ (i + 1 + x)), M4) = some (nI (0 ||| 2 ^ (i + 1 + x) ||| 2 ^ i), M4)
          rw [Nat.zero_or, Nat.or_comm]
        | false =>
          right
          rw [hw, if_neg (by decide)] at hs
          exact ⟨(), M4, by rw [if_neg (by decide)]; rfl, e2, by rw [g2, srW_miss hj hs]; rfl⟩
    obtain ⟨M2, j1, j2⟩ := jl
    have e55 : fMd_cut_55 k47 (fu + 1) (nI a) (nI b) (nI 2) (nI i) M' = fMd_cut_80 (fMd_cut_55 k47 fu) FU (nI a) (nI b) (nI 2) (nI i) (nI (i + 1)) M' := by
      rw [fMd_cut_55, h1 0 1 (by omega), hN.2.1, if_neg (nI_ge hi (by omega)), if_neg (by decide), lt_eq, nI_1]
    show _ ∨ ∃ s2 M2, fMd_cut_55 k47 (fu + 1) (nI a) (nI b) (nI 2) (nI i) M' = _ ∧ _
    rw [e55, j1]
    cases hs : srK (wk n E a b) E.length 1 (i + 1) (2 ^ i) with
    | some ls =>
      left
      refine ⟨M2, ?_, j2⟩
      rw [h2, srW_hit hi (by rw [Nat.zero_or]; exact hs)]
    | none =>
      right
      exact ⟨(), M2, rfl, j2, by rw [h2, srW_miss hi (by rw [Nat.zero_or]; exact hs)]⟩
theorem lv3_Y {M M0 : zM} {a b : Nat} (hlen : E.length ≤ 30) (hN : NetY M n E) (h0 : fq (fun c _ => c = 16) M M0) {k47 : Int32 → Int32 → Int32 → zM → Option (Int32 × zM)}
    (hc : ∀ i j k M', i < E.length → j < E.length → k < E.length → popc (2 ^ i ||| 2 ^ j ||| 2 ^ k) ≤ 3 → fq (fun c _ => c = 16) M M' → ∃ M2, fMd_isParted (nI a) (nI b) (nI (2 ^ i ||| 2 ^ j ||| 2 ^ k)) M' = some (bI (wk n E a b (2 ^ i ||| 2 ^ j ||| 2 ^ k)), M2) ∧ fq (fun c _ => c = 16) M M2) :
    ∃ M2, fMd_cut_55 k47 FU (nI a) (nI b) (nI 3) 0 M0 = (match srK (wk n E a b) E.length 3 0 0 with
      | some ls => some (nI (mkL ls), M2)
      | none => k47 (nI a) (nI b) (nI 4) M2) ∧ fq (fun c _ => c = 16) M M2 := by
  refine lpE (f := fun fu i (_ : Unit) M => fMd_cut_55 k47 fu (nI a) (nI b) (nI 3) (nI i) M) (n := E.length)
    (I := fun i _ M' => fq (fun c _ => c = 16) M M' ∧ srK (wk n E a b) E.length 3 0 0 = srW (srK (wk n E a b) E.length 2) (E.length - i) i 0)
    (R := fun o => ∃ M2, o = (match srK (wk n E a b) E.length 3 0 0 with
      | some ls => some (nI (mkL ls), M2)
      | none => k47 (nI a) (nI b) (nI 4) M2) ∧ fq (fun c _ => c = 16) M M2) ?_ ?_ 0 FU () M0 (by omega) (fu_ok (by omega)) ⟨h0, rfl⟩
  · rintro fu - M' ⟨h1, h2⟩
    rw [Nat.sub_self] at h2
    have h2 : srK (wk n E a b) E.length 3 0 0 = none := h2
    refine ⟨M', ?_, h1⟩
    rw [fMd_cut_55, h1 0 1 (by omega), hN.2.1, if_pos (nI_le (by omega) (by omega)), h2]
    rfl
  · rintro fu i - M' hi ⟨h1, h2⟩
    have jl : ∃ M2, fMd_cut_80 (fMd_cut_55 k47 fu) FU (nI a) (nI b) (nI 3) (nI i) (nI (i + 1)) M' = (match srK (wk n E a b) E.length 2 (i + 1) (2 ^ i) with
        | some ls => some (nI (mkL (i :: ls)), M2)
        | none => fMd_cut_55 k47 fu (nI a) (nI b) (nI 3) (nI (i + 1)) M2) ∧ fq (fun c _ => c = 16) M M2 := by
      have := lpE (f := fun fu2 x (_ : Unit) M => fMd_cut_80 (fMd_cut_55 k47 fu) fu2 (nI a) (nI b) (nI 3) (nI i) (nI (i + 1 + x)) M) (n := E.length - (i + 1))
        (I := fun x _ M' => fq (fun c _ => c = 16) M M' ∧ srK (wk n E a b) E.length 2 (i + 1) (2 ^ i) = srW (srK (wk n E a b) E.length 1) (E.length - (i + 1 + x)) (i + 1 + x) (2 ^ i))
        (R := fun o => ∃ M2, o = (match srK (wk n E a b) E.length 2 (i + 1) (2 ^ i) with
          | some ls => some (nI (mkL (i :: ls)), M2)
          | none => fMd_cut_55 k47 fu (nI a) (nI b) (nI 3) (nI (i + 1)) M2) ∧ fq (fun c _ => c = 16) M M2) ?_ ?_ 0 FU () M' (Nat.zero_le _) (fu_ok (by omega)) ⟨h1, rfl⟩
      · exact this
      · rintro fu2 - M3 ⟨g1, g2⟩
        rw [show i + 1 + (E.length - (i + 1)) = E.length by omega, Nat.sub_self] at g2
        have g2 : srK (wk n E a b) E.length 2 (i + 1) (2 ^ i) = none := g2
        refine ⟨M3, ?_, g1⟩
        rw [show i + 1 + (E.length - (i + 1)) = E.length by omega, fMd_cut_80, if_neg (by decide), g1 0 1 (by omega), hN.2.1, fMd_cut_98, if_pos (nI_le (Nat.le_refl _) (by omega)), nI_1, g2]
      · rintro fu2 x - M3 hx ⟨g1, g2⟩
        have hj : i + 1 + x < E.length := by omega
        obtain ⟨j, hjx⟩ : ∃ j, i + 1 + x = j := ⟨_, rfl⟩
        rw [hjx] at hj g2
        have kl : ∃ M4, fMd_cut_117 (fMd_cut_80 (fMd_cut_55 k47 fu) fu2) FU (nI a) (nI b) (nI 3) (nI i) (nI j) (nI (j + 1)) M3 = (match srK (wk n E a b) E.length 1 (j + 1) (2 ^ i ||| 2 ^ j) with
            | some ls => some (nI (mkL (i :: j :: ls)), M4)
            | none => fMd_cut_80 (fMd_cut_55 k47 fu) fu2 (nI a) (nI b) (nI 3) (nI i) (nI (j + 1)) M4) ∧ fq (fun c _ => c = 16) M M4 := by
          have := lpE (f := fun fu3 y (_ : Unit) M => fMd_cut_117 (fMd_cut_80 (fMd_cut_55 k47 fu) fu2) fu3 (nI a) (nI b) (nI 3) (nI i) (nI j) (nI (j + 1 + y)) M) (n := E.length - (j + 1))
            (I := fun y _ M' => fq (fun c _ => c = 16) M M' ∧ srK (wk n E a b) E.length 1 (j + 1) (2 ^ i ||| 2 ^ j) = srW (srK (wk n E a b) E.length 0) (E.length - (j + 1 + y)) (j + 1 + y) (2 ^ i ||| 2 ^ j))
            (R := fun o => ∃ M4, o = (match srK (wk n E a b) E.length 1 (j + 1) (2 ^ i ||| 2 ^ j) with
              | some ls => some (nI (mkL (i :: j :: ls)), M4)
              | none => fMd_cut_80 (fMd_cut_55 k47 fu) fu2 (nI a) (nI b) (nI 3) (nI i) (nI (j + 1)) M4) ∧ fq (fun c _ => c = 16) M M4) ?_ ?_ 0 FU () M3 (Nat.zero_le _) (fu_ok (by omega)) ⟨g1, rfl⟩
          · exact this
          · rintro fu3 - M5 ⟨q1, q2⟩
            rw [show j + 1 + (E.length - (j + 1)) = E.length by omega, Nat.sub_self] at q2
            have q2 : srK (wk n E a b) E.length 1 (j + 1) (2 ^ i ||| 2 ^ j) = none := q2
            refine ⟨M5, ?_, q1⟩
            rw [show j + 1 + (E.length - (j + 1)) = E.length by omega, fMd_cut_117, if_neg (by decide), q1 0 1 (by omega), hN.2.1, cutEnd_Y (by omega) (by omega) (Nat.le_refl _), q2]
          · rintro fu3 y - M5 hy ⟨q1, q2⟩
            have hk : j + 1 + y < E.length := by omega
            obtain ⟨M6, e1, e2⟩ := cut1_Y (n := n) (E := E) (a := a) (b := b) (many := 3) (k80 := fMd_cut_80 (fMd_cut_55 k47 fu) fu2) (k117 := fMd_cut_117 (fMd_cut_80 (fMd_cut_55 k47 fu) fu2) fu3) (bnd := E.length) hlen hi hj hk (by omega) hk (hc i j (j + 1 + y) M5 hi hj hk (by
              have h1 := popc_le_or (2 ^ i ||| 2 ^ j) (j + 1 + y) (by omega)
              have h2 := popc_le_or (2 ^ i) j (by omega)
              rw [popc_1 (show i < 32 by omega)] at h2
              omega) q1)
            have e117 : fMd_cut_117 (fMd_cut_80 (fMd_cut_55 k47 fu) fu2) (fu3 + 1) (nI a) (nI b) (nI 3) (nI i) (nI j) (nI (j + 1 + y)) M5 = (if wk n E a b (2 ^ i ||| 2 ^ j ||| 2 ^ (j + 1 + y)) = true then some (nI (2 ^ i ||| 2 ^ j ||| 2 ^ (j + 1 + y)), M6) else fMd_cut_117 (fMd_cut_80 (fMd_cut_55 k47 fu) fu2) fu3 (nI a) (nI b) (nI 3) (nI i) (nI j) (nI (j + 1 + y + 1)) M6) := by
              rw [fMd_cut_117, if_neg (by decide), q1 0 1 (by omega), hN.2.1, e1]
            have hs : srK (wk n E a b) E.length 0 (j + 1 + y + 1) (2 ^ i ||| 2 ^ j ||| 2 ^ (j + 1 + y)) = if wk n E a b (2 ^ i ||| 2 ^ j ||| 2 ^ (j + 1 + y)) = true then some [] else none := by rw [srK]
            show _ ∨ ∃ s2 M2, fMd_cut_117 (fMd_cut_80 (fMd_cut_55 k47 fu) fu2) (fu3 + 1) (nI a) (nI b) (nI 3) (nI i) (nI j) (nI (j + 1 + y)) M5 = _ ∧ _
            rw [e117]
            cases hw : wk n E a b (2 ^ i ||| 2 ^ j ||| 2 ^ (j + 1 + y)) with
            | true =>
              left
              rw [hw, if_pos rfl] at hs
              refine ⟨M6, ?_, e2⟩
              rw [q2, srW_hit hk hs, if_pos rfl]
              show some (nI (2 ^ i ||| 2 ^ j ||| 2 ^ (j + 1 + y)), M6) = some (nI (0 ||| 2 ^ (j + 1 + y) ||| 2 ^ j ||| 2 ^ i), M6)
              rw [Nat.zero_or, Nat.or_comm (2 ^ i ||| 2 ^ j), Nat.or_comm (2 ^ i), Nat.or_assoc (2 ^ (j + 1 + y))]
            | false =>
              right
              rw [hw, if_neg (by decide)] at hs
              exact ⟨(), M6, by rw [if_neg (by decide)]; rfl, e2, by rw [q2, srW_miss hk hs]; rfl⟩
        obtain ⟨M4, k1, k2⟩ := kl
        have e80 : fMd_cut_80 (fMd_cut_55 k47 fu) (fu2 + 1) (nI a) (nI b) (nI 3) (nI i) (nI j) M3 = fMd_cut_117 (fMd_cut_80 (fMd_cut_55 k47 fu) fu2) FU (nI a) (nI b) (nI 3) (nI i) (nI j) (nI (j + 1)) M3 := by
          rw [fMd_cut_80, if_neg (by decide), g1 0 1 (by omega), hN.2.1, fMd_cut_98, if_neg (nI_ge hj (by omega)), if_neg (by decide), lt_eq, nI_1]
        show _ ∨ ∃ s2 M2, fMd_cut_80 (fMd_cut_55 k47 fu) (fu2 + 1) (nI a) (nI b) (nI 3) (nI i) (nI (i + 1 + x)) M3 = _ ∧ _
        rw [hjx, e80, k1]
        cases hs : srK (wk n E a b) E.length 1 (j + 1) (2 ^ i ||| 2 ^ j) with
        | some ls =>
          left
          refine ⟨M4, ?_, k2⟩
          rw [g2, srW_hit hj hs]
        | none =>
          right
          exact ⟨(), M4, by rw [show i + 1 + (x + 1) = j + 1 by omega], k2, by rw [g2, srW_miss hj hs, show i + 1 + (x + 1) = j + 1 by omega]⟩
    obtain ⟨M2, j1, j2⟩ := jl
    have e55 : fMd_cut_55 k47 (fu + 1) (nI a) (nI b) (nI 3) (nI i) M' = fMd_cut_80 (fMd_cut_55 k47 fu) FU (nI a) (nI b) (nI 3) (nI i) (nI (i + 1)) M' := by
      rw [fMd_cut_55, h1 0 1 (by omega), hN.2.1, if_neg (nI_ge hi (by omega)), if_neg (by decide), lt_eq, nI_1]
    show _ ∨ ∃ s2 M2, fMd_cut_55 k47 (fu + 1) (nI a) (nI b) (nI 3) (nI i) M' = _ ∧ _
    rw [e55, j1]
    cases hs : srK (wk n E a b) E.length 2 (i + 1) (2 ^ i) with
    | some ls =>
      left
      refine ⟨M2, ?_, j2⟩
      rw [h2, srW_hit hi (by rw [Nat.zero_or]; exact hs)]
    | none =>
      right
      exact ⟨(), M2, rfl, j2, by rw [h2, srW_miss hi (by rw [Nat.zero_or]; exact hs)]⟩
end cyS
theorem cut_Y {M : zM} {n : Nat} {E : List (Nat × Nat)} (hW : gW n E) (hN : NetY M n E) (hS : SY M n (gTree n E)) {a b : Nat} (ha : a < n) (hb : b < n) (hr : tR (gTree n E) a = tR (gTree n E) b) : ∃ M2, fMd_cut_47 FU (nI a) (nI b) 1 M = some (gCut n E a b, M2) ∧ fq (fun c _ => c = 16) M M2 := by
  have hl := hW.2.1
  have hw0 : ∀ w, wk n E a b w = true → 1 ≤ popc w ∨ 2 ^ E.length ≤ w := fun w hw => by
    by_cases hlt : w < 2 ^ E.length
    · left
      rcases Nat.eq_zero_or_pos (popc w) with z | z
      · exfalso
        have : w = 0 := by
          apply Nat.eq_of_testBit_eq
          intro j
          rw [Nat.zero_testBit]
          by_cases hj : j < 32
          · exact (fb_ct_zero.mp z) j hj
          · exact Nat.testBit_lt_two_pow (Nat.lt_of_lt_of_le hlt (Nat.pow_le_pow_right (by decide) (by omega)))
        rw [this] at hw
        unfold wk at hw
        rw [wkL_0] at hw
        cases hw
      · exact z
    · right
      omega
  have H1 : ∀ w, w < 2 ^ E.length → wk n E a b w = true → 1 ≤ popc w := fun w h1 h2 => (hw0 w h2).resolve_right (by omega)
  have up : ∀ k, k < 3 → (∀ w, w < 2 ^ E.length → wk n E a b w = true → k ≤ popc w) → srK (wk n E a b) E.length k 0 0 = none → ∀ w, w < 2 ^ E.length → wk n E a b w = true → k + 1 ≤ popc w := fun k _ hk hn w h1 h2 => by
    rcases Nat.lt_or_ge k (popc w) with z | z
    · exact z
    · exfalso
      have := hk w h1 h2
      have := srK_none hl k 0 0 w hn h1 (by omega) (fun j _ => Nat.zero_le j)
      rw [Nat.zero_or, h2] at this
      cases this
  have hc : ∀ many, many ≤ 3 → (∀ w, w < 2 ^ E.length → wk n E a b w = true → many ≤ popc w) → ∀ i j k M', i < E.length → j < E.length → k < E.length → popc (2 ^ i ||| 2 ^ j ||| 2 ^ k) ≤ many → fq (fun c _ => c = 16) M M' → ∃ M2, fMd_isParted (nI a) (nI b) (nI (2 ^ i ||| 2 ^ j ||| 2 ^ k)) M' = some (bI (wk n E a b (2 ^ i ||| 2 ^ j ||| 2 ^ k)), M2) ∧ fq (fun c _ => c = 16) M M2 := fun many hm hH i j k M' hi hj hk hp hf => chk_Y hW hN hS ha hb hr hm hH (or3_lt hi hj hk) hp hf
  obtain ⟨M1, e1, f1⟩ := lv1_Y (n := n) (M0 := M) (k47 := fMd_cut_47 4999) hl hN fq_rf (hc 1 (by decide) H1)
  rw [show FU = 4999 + 1 from rfl, fMd_cut_47, if_neg (by decide), qlit1]
  rw [show FU = 4999 + 1 from rfl] at e1
  have e1' : fMd_cut_55 (fMd_cut_47 4999) FU (nI a) (nI b) (nI 1) 0 M = _ := e1
  rw [e1']
  unfold gCut
  cases h1 : srK (wk n E a b) E.length 1 0 0 with
  | some ls => exact ⟨M1, rfl, f1⟩
  | none =>
    have H2 := up 1 (by decide) H1 h1
    obtain ⟨M2, e2, f2⟩ := lv2_Y (n := n) (M0 := M1) (k47 := fMd_cut_47 4998) hl hN f1 (hc 2 (by decide) H2)
    show ∃ M2, fMd_cut_47 (4998 + 1) (nI a) (nI b) (nI 2) M1 = _ ∧ _
    rw [fMd_cut_47, if_neg (by decide), e2]
    cases h2 : srK (wk n E a b) E.length 2 0 0 with
    | some ls => exact ⟨M2, rfl, f2⟩
    | none =>
      have H3 := up 2 (by decide) H2 h2
      obtain ⟨M3, e3, f3⟩ := lv3_Y (n := n) (M0 := M2) (k47 := fMd_cut_47 4997) hl hN f2 (hc 3 (by decide) H3)
      show ∃ M2_1, fMd_cut_47 (4997 + 1) (nI a) (nI b) (nI 3) M2 = _ ∧ _
      rw [fMd_cut_47, if_neg (by decide), e3]
      cases h3 : srK (wk n E a b) E.length 3 0 0 with
      | some ls => exact ⟨M3, rfl, f3⟩
      | none =>
        refine ⟨M3, ?_, f3⟩
        show fMd_cut_47 (4996 + 1) (nI a) (nI b) (nI 4) M3 = _
        rw [fMd_cut_47, if_pos (by decide)]
        rfl
theorem st_cut (a0 a1 : Int32) : zStep Rl (fun M => fNN_cut a0 a1 M) (fun M => fMd_cut a0 a1 M) := by
  rintro Mx My t ht ⟨n, E, B, tx, an, pl, c, h⟩
  have hW := h.1
  have hn := hW.1.2
  have hX := h.2.2.2.2.1
  have hY := h.2.2.2.2.2.1
  rcases zin3_cases a0 (n := n) (by omega) with ⟨a, ha, rfl, h1⟩ | h1
  · rcases zin3_cases a1 (n := n) (by omega) with ⟨b, hb, rfl, h2⟩ | h2
    · have ex : fNN_cut (nI a) (nI b) Mx = if ¬ nI a = nI b then (cl (fCuts_fewest (nI a) (nI b) Mx) fun r4 M3 => some (r4, M3)) else some (-1003, Mx) := by
        rw [fNN_cut, hasPosts_ok hX.1 hW, cl_some, h1, h2, Bool.and_true, bI_t, if_pos (by decide)]
      have ey : fMd_cut (nI a) (nI b) My = if ¬ nI a = nI b then (cl (fMd_findTree My) fun _ M5 => cl (fMd_isParted (nI a) (nI b) 0 M5) fun r7 M6 => if r7 = 0 then fMd_cut_47 FU (nI a) (nI b) 1 M6 else some (0, M6)) else some (-1003, My) := by
        rw [fMd_cut, noPost_ok hY hW, cl_some, h1, Bool.not_true, bI_f, if_neg (not_not_intro rfl), noPost_ok hY hW, cl_some, h2, Bool.not_true, bI_f, if_pos rfl]
      by_cases hab : a = b
      · refine ⟨-1003, Mx, My, ?_, ?_, Rl_same h⟩
        · show fNN_cut (nI a) (nI b) Mx = _
          rw [ex, if_neg (by rw [hab]; exact not_not_intro rfl)]
        · show fMd_cut (nI a) (nI b) My = _
          rw [ey, if_neg (by rw [hab]; exact not_not_intro rfl)]
      · have hne : ¬ nI a = nI b := fun z => hab ((nI_eq (by omega) (by omega)).mp z)
        obtain ⟨M2, x1, x2, x3⟩ := fewest_X hW hX.1 hX.2.1 ha hb
        obtain ⟨M3, y1, y2, y3⟩ := findTree_q hW hY
        have hN3 := fq_netY y3 hY (fun k => by omega)
        obtain ⟨r, M4, p1, p2, p3⟩ := isParted_Y hW hN3 y2 ha hb (s := 0) (Nat.two_pow_pos _) (by
          have : fb_ct (fun i => Nat.testBit 0 i) E.length = 0 := fb_ct_zero.mpr (fun k _ => Nat.zero_testBit k)
          omega)
        have p1 : fMd_isParted (nI a) (nI b) 0 M3 = some (bI r, M4) := p1
        rw [if_pos hne, x1, cl_some] at ex
        rw [if_pos hne, y1, cl_some, p1, cl_some] at ey
        by_cases hr : tR (gTree n E) a = tR (gTree n E) b
        · have hrf : r = false := by
            rw [Bool.eq_false_iff]
            intro z
            rcases p2.mp z with y | ⟨w, w1, w2⟩
            · exact y hr
            · rw [Nat.and_zero] at w1
              rw [← w1] at w2
              unfold wk at w2
              rw [wkL_0] at w2
              cases w2
          obtain ⟨M5, q1, q2⟩ := cut_Y hW (fq_netY p3 hN3 (fun k => by omega)) (SY.fq y2 p3 (fun k => by omega)) ha hb hr
          rw [hrf, bI_f, if_pos rfl, q1] at ey
          rw [if_pos hr] at ex
          exact ⟨gCut n E a b, M2, M5, ex, ey, Rl_rd h (zRd_of_zL x3) x2 (fq_tr y3 (fq_tr (fq_mono p3 (fun c k h => by omega)) (fq_mono q2 (fun c k h => by omega))))⟩
        · have hrt : r = true := p2.mpr (Or.inl hr)
          rw [hrt, bI_t, if_neg (by decide)] at ey
          rw [if_neg hr] at ex
          exact ⟨0, M2, M4, ex, ey, Rl_rd h (zRd_of_zL x3) x2 (fq_tr y3 (fq_mono p3 (fun c k h => by omega)))⟩
    · refine ⟨-1001, Mx, My, ?_, ?_, Rl_same h⟩
      · show fNN_cut (nI a) a1 Mx = _
        rw [fNN_cut, hasPosts_ok hX.1 hW, cl_some, h2, Bool.and_false, bI_f, if_neg (not_not_intro rfl)]
      · show fMd_cut (nI a) a1 My = _
        rw [fMd_cut, noPost_ok hY hW, cl_some, h1, Bool.not_true, bI_f, if_neg (not_not_intro rfl), noPost_ok hY hW, cl_some, h2, Bool.not_false, bI_t, if_neg (by decide)]
  · refine ⟨-1001, Mx, My, ?_, ?_, Rl_same h⟩
    · show fNN_cut a0 a1 Mx = _
      rw [fNN_cut, hasPosts_ok hX.1 hW, cl_some, h1, Bool.false_and, bI_f, if_neg (not_not_intro rfl)]
    · show fMd_cut a0 a1 My = _
      rw [fMd_cut, noPost_ok hY hW, cl_some, h1, Bool.not_false, bI_t, if_pos (by decide)]
