/-! PURE: NAMES of LINES -/
def own (T : tT) (l : Nat) : Bool := decide (∃ q ∈ tO T, tL T q = some l)
def gR (E : List (Nat × Nat)) (T : tT) (k : Nat) : Nat := match E[k]? with
  | some e => tA T e.1 ^^^ tA T e.2
  | none => 0
/-- bit k: line k is spare, and the tree joins its ends by way of line l -/
def gLb (E : List (Nat × Nat)) (T : tT) (l k : Nat) : Bool := decide (k < E.length) && (!own T k && (gR E T k).testBit l)
def gLN (E : List (Nat × Nat)) (T : tT) (l : Nat) : Nat := if own T l = true then mkM (gLb E T l) 30 else 2 ^ l
theorem path_own {n : Nat} {E : List (Nat × Nat)} {T : tT} (hC : tC E T) : ∀ (d q l : Nat), q ∈ tO T → tD T q = d → (tA T q).testBit l = true → own T l = true := by
  intro d
  induction d with
  | zero =>
    intro q l hq hd hb
    rcases (hC q hq).2 with ⟨c1, c2, c3, c4, c5⟩ | ⟨p, hp, c1, c2, c3, c4, c5, c6⟩
    · rw [c2] at hb
      simp at hb
    · omega
  | succ d ih =>
    intro q l hq hd hb
    rcases (hC q hq).2 with ⟨c1, c2, c3, c4, c5⟩ | ⟨p, hp, c1, c2, c3, c4, c5, c6⟩
    · omega
    · rw [c3, Nat.testBit_or, testBit_pow, Bool.or_eq_true, decide_eq_true_eq] at hb
      rcases hb with hb | hb
      · exact ih p l hp (by omega) hb
      · exact decide_eq_true ⟨q, hq, by rw [c4, hb]⟩
theorem isTree_loop {M : zM} {n : Nat} {E : List (Nat × Nat)} (hW : gW n E) (hN : NetY M n E) {T : tT} (hall : ∀ q, q < n → q ∈ tO T) (hS : SY M n T) (hLb : ∀ q ∈ tO T, ∀ k, tL T q = some k → k < 30) {l : Nat} (hl : l < 30) : ∀ (d i fuel : Nat) (b : Bool), n - i = d → i ≤ n → d < fuel → fMd_isTreeLine_4 fuel (nI l) (bI b) (nI i) M = some (bI (b || (List.range' i d).any (fun q => decide (tL T q = some l))), M) := by
  intro d
  induction d with
  | zero =>
    intro i fuel b hd hi hf
    obtain ⟨fuel, rfl⟩ : ∃ k, fuel = k + 1 := ⟨fuel - 1, by omega⟩
    have hn := hW.1.2
    rw [fMd_isTreeLine_4, if_pos (by rw [hN.1]; exact nI_le (by omega) (by omega))]
    cases b <;> simp [bI, zbl_0, zbl_1]
  | succ d ih =>
    intro i fuel b hd hi hf
    obtain ⟨fuel, rfl⟩ : ∃ k, fuel = k + 1 := ⟨fuel - 1, by omega⟩
    have hn := hW.1.2
    have hii : i ∈ tO T := hall i (by omega)
    rw [range'_cons, List.any_cons, fMd_isTreeLine_4, if_neg (by rw [hN.1]; exact nI_ge (show i < n by omega) (by omega))]
    cases b with
    | true =>
      rw [if_pos (by decide), nI_1]
      have := ih (i + 1) fuel true (by omega) (by omega) (by omega)
      rw [bI_t] at this
      rw [this]
      simp
    | false =>
      rw [if_neg (by decide), rd_ok (show i < 12 by omega) (by decide), (hS.2.1 i hii).2.2.1, nI_1]
      have h0 := ih (i + 1) fuel false (by omega) (by omega) (by omega)
      have h1 := ih (i + 1) fuel true (by omega) (by omega) (by omega)
      rw [bI_f] at h0
      rw [bI_t] at h1
      rw [h0, h1]
      cases hli : tL T i with
      | none =>
        show (if ¬ (-1 : Int32) = nI l then _ else _) = _
        rw [if_pos (fun z => nI_m1 l (by omega) z.symm)]
        simp
      | some k =>
        have hk := hLb i hii k hli
        show (if ¬ nI k = nI l then _ else _) = _
        by_cases hkl : k = l
        · subst hkl
          simp
        · rw [if_pos (fun z => hkl ((nI_eq (by omega) (by omega)).mp z))]
          simp [hkl]
theorem tL_lt {n : Nat} {E : List (Nat × Nat)} (hW : gW n E) {T : tT} (hC : tC E T) : ∀ q ∈ tO T, ∀ k, tL T q = some k → k < E.length := by
  intro q hq k hk
  rcases (hC q hq).2 with ⟨c1, c2, c3, c4, c5⟩ | ⟨p, hp, c1, c2, c3, c4, c5, c6⟩
  · rw [c3] at hk
    cases hk
  · rw [c4] at hk
    cases hk
    exact (gX_adj c2).2
theorem isTree_ok {M : zM} {n : Nat} {E : List (Nat × Nat)} (hW : gW n E) (hN : NetY M n E) {T : tT} (hT : tW n T) (hall : ∀ q, q < n → q ∈ tO T) (hC : tC E T) (hS : SY M n T) {l : Nat} (hl : l < 30) : fMd_isTreeLine (nI l) M = some (bI (own T l), M) := by
  have hn := hW.1.2
  have hl30 := hW.2.1
  unfold fMd_isTreeLine
  have h := isTree_loop hW hN hall hS (fun q hq k hk => Nat.lt_of_lt_of_le (tL_lt hW hC q hq k hk) hl30) hl n 0 FU false (by omega) (by omega) (by unfold FU; omega)
  rw [bI_f, nI_0] at h
  rw [h, Bool.false_or]
  congr 3
  unfold own
  rw [Bool.eq_iff_iff, List.any_eq_true, decide_eq_true_eq]
  constructor
  · rintro ⟨q, hq, hh⟩
    have hqn := range'_lt (n := n) hq (by omega)
    exact ⟨q, hall q hqn, by simpa using hh⟩
  · rintro ⟨q, hq, hh⟩
    exact ⟨q, List.mem_range'_1.mpr (by have := hT.2.1 q hq; omega), by simpa using hh⟩
theorem lineName_loop {M : zM} {n : Nat} {E : List (Nat × Nat)} (hW : gW n E) (hN : NetY M n E) {T : tT} (hT : tW n T) (hall : ∀ q, q < n → q ∈ tO T) (hC : tC E T) (hS : SY M n T) {l : Nat} (hl : l < 30) : ∀ (d i fuel : Nat), E.length - i = d → i ≤ E.length → d < fuel → fMd_lineName_16 fuel (nI l) (nI (mkM (gLb E T l) i)) (nI i) M = some (nI (mkM (gLb E T l) E.length), M) := by
  intro d
  induction d with
  | zero =>
    intro i fuel hd hi hf
    obtain ⟨fuel, rfl⟩ : ∃ k, fuel = k + 1 := ⟨fuel - 1, by omega⟩
    have hl30 := hW.2.1
    have : i = E.length := by omega
    subst this
    rw [fMd_lineName_16, if_pos (by rw [hN.2.1]; exact nI_le (by omega) (by omega))]
  | succ d ih =>
    intro i fuel hd hi hf
    obtain ⟨fuel, rfl⟩ : ∃ k, fuel = k + 1 := ⟨fuel - 1, by omega⟩
    have hl30 := hW.2.1
    have hn := hW.1.2
    have hlt : i < E.length := by omega
    obtain ⟨e, he⟩ : ∃ e, E[i]? = some e := ⟨_, List.getElem?_eq_getElem hlt⟩
    have hg := hW.get he
    have hm := hN.2.2 i e he
    have hnext := ih (i + 1) fuel (by omega) (by omega) (by omega)
    have hR : gR E T i = tA T e.1 ^^^ tA T e.2 := by unfold gR; rw [he]
    have hx : tA T e.1 ^^^ tA T e.2 < 2 ^ 30 := xor_lt (hT.2.2.1 _) (hT.2.2.1 _)
    rw [fMd_lineName_16, if_neg (by rw [hN.2.1]; exact nI_ge hlt (by omega)), rd_ok hg.1 (by decide), hm.1, wayUp_ok hW hT hC hS (hall _ hg.2.1), cl_some, rd_ok hg.1 (by decide), hm.2, wayUp_ok hW hT hC hS (hall _ hg.2.2.1), cl_some, fb_xorI, lt_eq, isTree_ok hW hN hT hall hC hS hg.1, cl_some, nI_1]
    have hmk : mkM (gLb E T l) (i + 1) = 2 ^ i * (gLb E T l i).toNat + mkM (gLb E T l) i := rfl
    have hor0 : nI (mkM (gLb E T l) i) ||| 0 = nI (mkM (gLb E T l) i) := by
      rw [show (0 : Int32) = nI 0 from rfl, fa_or, Nat.or_zero]
    have hb : gLb E T l i = (!own T i && (tA T e.1 ^^^ tA T e.2).testBit l) := by unfold gLb; rw [hR]; simp [hlt]
    rw [hmk, hb] at hnext
    cases ho : own T i with
    | true =>
      rw [if_pos (by decide), lt_eq, hor0]
      rw [ho] at hnext
      simpa using hnext
    | false =>
      rw [if_neg (by decide), zbit (Nat.lt_trans hx (by decide)) (by omega)]
      rw [ho] at hnext
      cases hbb : (tA T e.1 ^^^ tA T e.2).testBit l with
      | false =>
        rw [if_pos (by decide), lt_eq, hor0]
        rw [hbb] at hnext
        simpa using hnext
      | true =>
        rw [if_neg (by decide), lt_eq, zshl_pow (by omega), fa_or]
        rw [hbb] at hnext
        have e1 : mkM (gLb E T l) i ||| 2 ^ i = 2 ^ i * 1 + mkM (gLb E T l) i := by
          rw [Nat.two_pow_add_eq_or_of_lt (mkM_lt _ _) 1, Nat.or_comm, Nat.mul_one]
        rw [e1]
        simpa using hnext
theorem mkM_ext {f : Nat → Bool} {k m : Nat} (hkm : k ≤ m) (h : ∀ j, k ≤ j → f j = false) : mkM f k = mkM f m := by
  apply mkM_of (Nat.lt_of_lt_of_le (mkM_lt f k) (Nat.pow_le_pow_right (by decide) hkm))
  intro j hj
  rw [mkM_bit]
  by_cases hjk : j < k
  · simp [hjk]
  · simp [hjk, h j (by omega)]
theorem lineName_ok {M : zM} {n : Nat} {E : List (Nat × Nat)} (hW : gW n E) (hN : NetY M n E) {T : tT} (hT : tW n T) (hall : ∀ q, q < n → q ∈ tO T) (hC : tC E T) (hS : SY M n T) {l : Nat} (hl : l < 30) : fMd_lineName (nI l) M = some (nI (gLN E T l), M) := by
  have hl30 := hW.2.1
  unfold fMd_lineName gLN
  rw [isTree_ok hW hN hT hall hC hS hl, cl_some]
  cases ho : own T l with
  | true =>
    rw [if_pos (by decide), if_pos rfl]
    have h := lineName_loop hW hN hT hall hC hS hl E.length 0 FU (by omega) (by omega) (by unfold FU; omega)
    rw [show mkM (gLb E T l) 0 = 0 from rfl, nI_0] at h
    rw [h, mkM_ext hl30 (fun j hj => by unfold gLb; simp [show ¬ j < E.length by omega])]
  | false =>
    rw [if_neg (by decide), if_neg (by decide), zshl_pow (by omega)]
