/-! PURE: nameLines, in the class -/
/-- line l's name when the spare lines below k are through -/
def gNb (E : List (Nat × Nat)) (T : tT) (l k : Nat) : Bool := decide (k < E.length) && (!own T k && ((gR E T k).testBit l || decide (k = l)))
theorem zshl_b {b : Bool} {j : Nat} (h : j < 31) : zshl (bI b) (nI j) = nI (2 ^ j * b.toNat) := by
  cases b with
  | true =>
    show zshl 1 (nI j) = _
    rw [zshl_pow h]
    simp
  | false =>
    show zshl 0 (nI j) = _
    unfold zshl
    have h1 := pk_shlN (n := 0) (nI j &&& 31) j (s_l j (by omega)) (by simp)
    rw [show (0 : Int32) = nI 0 from rfl, h1]
    simp
theorem gN_or {f : Nat → Bool} {k : Nat} : mkM f k ||| 2 ^ k * (f k).toNat = mkM f (k + 1) := by
  show _ = 2 ^ k * (f k).toNat + mkM f k
  rw [Nat.two_pow_add_eq_or_of_lt (mkM_lt f k), Nat.or_comm]
theorem nameIn_X {n : Nat} {E : List (Nat × Nat)} (hW : gW n E) {T : tT} {k : Int32 → zM → Option (Unit × zM)} {sp w : Nat} (hw : w < 2 ^ 30) (hsp : sp < E.length) (hwb : ∀ l, l < E.length → w.testBit l = ((gR E T sp).testBit l || decide (sp = l))) (hno : own T sp = false) : ∀ (d i fuel : Nat) (M : zM), E.length - i = d → i ≤ E.length → d < fuel → NetX M n E → (∀ l, l < E.length → M 11 l = nI (mkM (gNb E T l) (if l < i then sp + 1 else sp))) →
    ∃ M2, fTree_nameLines_68 k fuel (nI sp) (nI w) (nI i) M = k (nI (sp + 1)) M2 ∧ (∀ l, l < E.length → M2 11 l = nI (mkM (gNb E T l) (sp + 1))) ∧ fr [11] [] M M2 := by
  intro d
  induction d with
  | zero =>
    intro i fuel M hd hi hf hN hM
    obtain ⟨fuel, rfl⟩ : ∃ k, fuel = k + 1 := ⟨fuel - 1, by omega⟩
    have hl30 := hW.2.1
    refine ⟨M, ?_, fun l hl => ?_, fr_rf⟩
    · rw [fTree_nameLines_68, if_pos (by rw [hN.2.1]; exact nI_le (by omega) (by omega)), nI_1]
    · rw [hM l hl, if_pos (by omega)]
  | succ d ih =>
    intro i fuel M hd hi hf hN hM
    obtain ⟨fuel, rfl⟩ : ∃ k, fuel = k + 1 := ⟨fuel - 1, by omega⟩
    have hl30 := hW.2.1
    have hlt : i < E.length := by omega
    have hfr : fr [11] [] M (zs M 11 i (nI (mkM (gNb E T i) (sp + 1)))) := fr_zs fr_rf rfl
    obtain ⟨M2, h1, h2, h3⟩ := ih (i + 1) fuel (zs M 11 i (nI (mkM (gNb E T i) (sp + 1)))) (by omega) (by omega) (by omega) (frT hN hfr rfl rfl rfl rfl rfl rfl (fun kk => ⟨rfl, rfl, rfl⟩)) (fun l hl => by
      by_cases hli : l = i
      · rw [hli, zs_eq, if_pos (by omega)]
      · rw [zs_nk hli, hM l hl]
        by_cases hl2 : l < i
        · rw [if_pos hl2, if_pos (by omega)]
        · rw [if_neg hl2, if_neg (by omega)])
    refine ⟨M2, ?_, h2, fr_tr hfr h3⟩
    have hb : w.testBit i = gNb E T i sp := by
      rw [hwb i hlt]
      unfold gNb
      simp [hsp, hno]
    rw [fTree_nameLines_68, if_neg (by rw [hN.2.1]; exact nI_ge hlt (by omega)), rd_ok (show i < 30 by omega) (by decide), wr_ok (show i < 30 by omega) (by decide), hM i hlt, if_neg (by omega), zbit (Nat.lt_trans hw (by decide)) (by omega), zshl_b (by omega), fa_or, hb, gN_or, nI_1]
    exact h1
theorem nameOut_X {n : Nat} {E : List (Nat × Nat)} (hW : gW n E) {T : tT} (hT : tW n T) (hall : ∀ q, q < n → q ∈ tO T) : ∀ (d i fuel : Nat) (M : zM), E.length - i = d → i ≤ E.length → d < fuel → NetX M n E → SX M n T → (∀ l, l < E.length → M 11 l = nI (mkM (gNb E T l) i)) →
    ∃ M2, fTree_nameLines_10 fuel (nI i) M = some ((), M2) ∧ (∀ l, l < E.length → M2 11 l = nI (mkM (gNb E T l) E.length)) ∧ fr [11] [] M M2 := by
  intro d
  induction d with
  | zero =>
    intro i fuel M hd hi hf hN hS hM
    obtain ⟨fuel, rfl⟩ : ∃ k, fuel = k + 1 := ⟨fuel - 1, by omega⟩
    have hl30 := hW.2.1
    have : i = E.length := by omega
    subst this
    refine ⟨M, ?_, hM, fr_rf⟩
    rw [fTree_nameLines_10, if_pos (by rw [hN.2.1]; exact nI_le (by omega) (by omega))]
  | succ d ih =>
    intro i fuel M hd hi hf hN hS hM
    obtain ⟨fuel, rfl⟩ : ∃ k, fuel = k + 1 := ⟨fuel - 1, by omega⟩
    have hl30 := hW.2.1
    have hn := hW.1.2
    have hlt : i < E.length := by omega
    obtain ⟨e, he⟩ : ∃ e, E[i]? = some e := ⟨_, List.getElem?_eq_getElem hlt⟩
    have hg := hW.get he
    have hm := hN.2.2.1 i e he
    have hbo : zshr (M 5 2) (nI i) &&& 1 = bI (own T i) := by
      rw [hS.2.2.2.1, zbit (Nat.lt_trans (mkM_lt _ _) (by decide)) (by omega), mkM_bit]
      simp only [show i < 30 by omega, decide_true, Bool.true_and]
      rfl
    cases ho : own T i with
    | true =>
      obtain ⟨M2, h1, h2, h3⟩ := ih (i + 1) fuel M (by omega) (by omega) (by omega) hN hS (fun l hl => by
        rw [hM l hl, ← gN_or]
        have : gNb E T l i = false := by unfold gNb; simp [ho]
        rw [this]
        simp)
      refine ⟨M2, ?_, h2, h3⟩
      rw [fTree_nameLines_10, if_neg (by rw [hN.2.1]; exact nI_ge hlt (by omega)), hbo, ho, if_pos (by decide), nI_1]
      exact h1
    | false =>
      have hR : gR E T i = tA T e.1 ^^^ tA T e.2 := by unfold gR; rw [he]
      have hxx : tA T e.1 ^^^ tA T e.2 < 2 ^ 30 := xor_lt (hT.2.2.1 _) (hT.2.2.1 _)
      obtain ⟨M1, g1, g2, g3⟩ := nameIn_X hW (T := T) (k := fTree_nameLines_10 fuel) (sp := i) (w := (tA T e.1 ^^^ tA T e.2) ||| 2 ^ i) (or_lt hxx (pow_ltk (by omega))) hlt (fun l hl => by rw [Nat.testBit_or, testBit_pow, hR]) ho E.length 0 FU M (by omega) (by omega) (by unfold FU; omega) hN (fun l hl => by rw [hM l hl, if_neg (by omega)])
      have hS1 : SX M1 n T := hS.kept ⟨g3 5 1 rfl rfl, g3 5 2 rfl rfl, g3 5 10 rfl rfl, g3 5 11 rfl rfl⟩ ⟨funext fun kk => g3 6 kk rfl rfl, funext fun kk => g3 7 kk rfl rfl, funext fun kk => g3 8 kk rfl rfl, funext fun kk => g3 12 kk rfl rfl⟩
      obtain ⟨M2, h1, h2, h3⟩ := ih (i + 1) fuel M1 (by omega) (by omega) (by omega) (frT hN g3 rfl rfl rfl rfl rfl rfl (fun kk => ⟨rfl, rfl, rfl⟩)) hS1 g2
      refine ⟨M2, ?_, h2, fr_tr g3 h3⟩
      rw [nI_0] at g1
      rw [fTree_nameLines_10, if_neg (by rw [hN.2.1]; exact nI_ge hlt (by omega)), hbo, ho, if_neg (by decide), rd_ok hg.1 (by decide), hm.1, rd_ok (show e.1 < 12 by omega) (by decide), rd_ok hg.1 (by decide), hm.2, rd_ok (show e.2 < 12 by omega) (by decide), (hS.2.2.2.2.2 e.1 (hall _ hg.2.1)).2.2, (hS.2.2.2.2.2 e.2 (hall _ hg.2.2.1)).2.2, fb_xorI, zshl_pow (by omega), fa_or, lt_eq, g1]
      exact h1
theorem gN_eq {n : Nat} {E : List (Nat × Nat)} (hW : gW n E) {T : tT} (hC : tC E T) (hall : ∀ q, q < n → q ∈ tO T) {l : Nat} (hl : l < E.length) : mkM (gNb E T l) E.length = gLN E T l := by
  have hl30 := hW.2.1
  rw [mkM_ext (m := 30) hl30 (fun j hj => by unfold gNb; simp [show ¬ j < E.length by omega])]
  unfold gLN
  cases ho : own T l with
  | true =>
    rw [if_pos rfl]
    apply mkM_cong
    intro j _
    unfold gNb gLb
    by_cases hjl : j = l
    · subst hjl
      simp [ho]
    · simp [hjl]
  | false =>
    rw [if_neg (by decide)]
    symm
    apply mkM_of (pow_ltk (by omega))
    intro j hj
    rw [testBit_pow]
    unfold gNb
    by_cases hjl : j = l
    · subst hjl
      simp [ho, hl]
    · have hlj : ¬ l = j := fun z => hjl z.symm
      have hz : (gR E T j).testBit l = false := by
        unfold gR
        cases he : E[j]? with
        | none => simp
        | some e =>
          have hg := hW.get he
          have z1 : (tA T e.1).testBit l = false := by
            cases hb : (tA T e.1).testBit l with
            | false => rfl
            | true => rw [path_own (n := n) hC _ e.1 l (hall _ hg.2.1) rfl hb] at ho; cases ho
          have z2 : (tA T e.2).testBit l = false := by
            cases hb : (tA T e.2).testBit l with
            | false => rfl
            | true => rw [path_own (n := n) hC _ e.2 l (hall _ hg.2.2.1) rfl hb] at ho; cases ho
          simp [Nat.testBit_xor, z1, z2]
      simp [hz, hjl, hlj]
theorem nameLines_X {n : Nat} {E : List (Nat × Nat)} (hW : gW n E) {T : tT} (hT : tW n T) (hC : tC E T) (hall : ∀ q, q < n → q ∈ tO T) {M : zM} (hN : NetX M n E) (hS : SX M n T) :
    ∃ M2, fTree_nameLines M = some ((), M2) ∧ (∀ l, l < E.length → M2 11 l = nI (gLN E T l)) ∧ fr [11] [] M M2 := by
  have hl30 := hW.2.1
  obtain ⟨M1, f1, f2, f3⟩ := fill_ok (c := 11) (N := 30) (by decide) 0 M
  have hfr : fr [11] [] M M1 := fun c k hc _ => f3 c k (fun z => by
    rw [z.1] at hc
    simp at hc)
  have hS1 : SX M1 n T := hS.kept ⟨hfr 5 1 rfl rfl, hfr 5 2 rfl rfl, hfr 5 10 rfl rfl, hfr 5 11 rfl rfl⟩ ⟨funext fun kk => hfr 6 kk rfl rfl, funext fun kk => hfr 7 kk rfl rfl, funext fun kk => hfr 8 kk rfl rfl, funext fun kk => hfr 12 kk rfl rfl⟩
  obtain ⟨M2, h1, h2, h3⟩ := nameOut_X hW hT hall E.length 0 FU M1 (by omega) (by omega) (by unfold FU; omega) (frT hN hfr rfl rfl rfl rfl rfl rfl (fun kk => ⟨rfl, rfl, rfl⟩)) hS1 (fun l hl => by rw [f2 l (by omega)]; rfl)
  refine ⟨M2, ?_, fun l hl => by rw [h2 l hl, gN_eq hW hC hall hl], fr_tr hfr h3⟩
  unfold fTree_nameLines
  rw [nI_0] at h1
  rw [f1, cl_some, h1]
