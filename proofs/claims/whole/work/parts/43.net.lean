/-! PURE: THE NET: n posts, a list of lines -/
def gS (a b : Nat) (e : Nat × Nat) : Bool := (decide (e.1 = a) && decide (e.2 = b)) || (decide (e.1 = b) && decide (e.2 = a))
def gA (E : List (Nat × Nat)) (a b : Nat) : Bool := E.any (gS a b)
def gXo : Option Nat → Nat → Int32
  | some j, i => nI (i + j)
  | none, _ => -1
def gX (E : List (Nat × Nat)) (a b : Nat) : Int32 := gXo (E.findIdx? (gS a b)) 0
def gW (n : Nat) (E : List (Nat × Nat)) : Prop := (1 ≤ n ∧ n ≤ 12) ∧ E.length ≤ 30 ∧ (∀ e ∈ E, e.1 < n ∧ e.2 < n ∧ e.1 ≠ e.2) ∧ E.Pairwise (fun e f => gS e.1 e.2 f = false)
theorem gS_comm (a b : Nat) (e : Nat × Nat) : gS a b e = gS b a e := by unfold gS; rw [Bool.or_comm]
theorem gA_comm (E : List (Nat × Nat)) (a b : Nat) : gA E a b = gA E b a := by
  unfold gA
  congr 1
  funext e
  exact gS_comm a b e
theorem gX_comm (E : List (Nat × Nat)) (a b : Nat) : gX E a b = gX E b a := by
  unfold gX
  have : gS a b = gS b a := funext (gS_comm a b)
  rw [this]
/-- a set as a number -/
def mkM (f : Nat → Bool) : Nat → Nat
  | 0 => 0
  | k + 1 => 2 ^ k * (f k).toNat + mkM f k
theorem mkM_lt (f : Nat → Bool) : ∀ k, mkM f k < 2 ^ k
  | 0 => by simp [mkM]
  | k + 1 => by
    have ih := mkM_lt f k
    have : 2 ^ (k + 1) = 2 * 2 ^ k := by rw [Nat.pow_succ]; omega
    unfold mkM
    cases f k <;> simp <;> omega
theorem mkM_bit (f : Nat → Bool) : ∀ k j, (mkM f k).testBit j = (decide (j < k) && f j)
  | 0, j => by simp [mkM]
  | k + 1, j => by
    unfold mkM
    rw [Nat.testBit_two_pow_mul_add _ (mkM_lt f k), mkM_bit f k j]
    by_cases h : j < k
    · simp [h, show j < k + 1 by omega]
    · rw [if_neg h]
      by_cases h2 : j = k
      · subst h2
        cases hf : f j <;> simp [hf]
      · have h3 : ¬ j < k + 1 := by omega
        simp only [h3, decide_false, Bool.false_and]
        cases f k
        · simp
        · have h4 : ¬ 0 = j - k := by omega
          have h5 := @Nat.testBit_two_pow 0 (j - k)
          simp only [Nat.pow_zero, h4, decide_false] at h5
          simpa using h5
theorem mkM_of {f : Nat → Bool} {k m : Nat} (hm : m < 2 ^ k) (h : ∀ j, j < k → m.testBit j = f j) : m = mkM f k := by
  apply Nat.eq_of_testBit_eq
  intro j
  rw [mkM_bit]
  by_cases hj : j < k
  · simp [hj, h j hj]
  · rw [Nat.testBit_lt_two_pow (Nat.lt_of_lt_of_le hm (Nat.pow_le_pow_right (by decide) (by omega)))]
    simp [hj]
theorem mkM_cong {f g : Nat → Bool} {k : Nat} (h : ∀ j, j < k → f j = g j) : mkM f k = mkM g k := mkM_of (mkM_lt f k) (fun j hj => by rw [mkM_bit]; simp [hj, h j hj])
/-- the class's net -/
def NetX (M : zM) (n : Nat) (E : List (Nat × Nat)) : Prop := M 1 0 = nI n ∧ M 1 1 = nI E.length ∧ (∀ (i : Nat) (e : Nat × Nat), E[i]? = some e → M 2 i = nI e.1 ∧ M 3 i = nI e.2) ∧ ∀ p, p < 12 → M 4 p = nI (mkM (gA E p) 12)
def NetY (M : zM) (n : Nat) (E : List (Nat × Nat)) : Prop := M 0 0 = nI n ∧ M 0 1 = nI E.length ∧ ∀ (i : Nat) (e : Nat × Nat), E[i]? = some e → M 1 i = nI e.1 ∧ M 2 i = nI e.2
theorem NetX.kept {M M2 : zM} {n : Nat} {E : List (Nat × Nat)} (h : NetX M n E) (h1 : M2 1 0 = M 1 0 ∧ M2 1 1 = M 1 1) (h2 : M2 2 = M 2 ∧ M2 3 = M 3 ∧ M2 4 = M 4) : NetX M2 n E :=
  ⟨h1.1.trans h.1, h1.2.trans h.2.1, fun i e he => by rw [h2.1, h2.2.1]; exact h.2.2.1 i e he, fun p hp => by rw [h2.2.2]; exact h.2.2.2 p hp⟩
theorem NetY.kept {M M2 : zM} {n : Nat} {E : List (Nat × Nat)} (h : NetY M n E) (h1 : M2 0 0 = M 0 0 ∧ M2 0 1 = M 0 1) (h2 : M2 1 = M 1 ∧ M2 2 = M 2) : NetY M2 n E :=
  ⟨h1.1.trans h.1, h1.2.trans h.2.1, fun i e he => by rw [h2.1, h2.2]; exact h.2.2 i e he⟩
theorem gW.get {n : Nat} {E : List (Nat × Nat)} (h : gW n E) {i : Nat} {e : Nat × Nat} (he : E[i]? = some e) : i < 30 ∧ e.1 < n ∧ e.2 < n ∧ e.1 ≠ e.2 := by
  have h1 : i < E.length := (List.getElem?_eq_some_iff.mp he).1
  have h2 := h.2.2.1 e (List.mem_of_getElem? he)
  exact ⟨by have := h.2.1; omega, h2⟩
theorem gA_lt {n : Nat} {E : List (Nat × Nat)} (h : gW n E) {a b : Nat} (hab : gA E a b = true) : a < n ∧ b < n ∧ a ≠ b := by
  obtain ⟨e, he, hs⟩ := List.any_eq_true.mp hab
  have h2 := h.2.2.1 e he
  simp only [gS, Bool.or_eq_true, Bool.and_eq_true, decide_eq_true_eq] at hs
  rcases hs with ⟨rfl, rfl⟩ | ⟨rfl, rfl⟩
  · exact h2
  · exact ⟨h2.2.1, h2.1, fun q => h2.2.2 q.symm⟩
/-- the line between two posts, from place i on -/
theorem drop_cons {α : Type} {l : List α} {i : Nat} {e : α} (h : l[i]? = some e) : l.drop i = e :: l.drop (i + 1) := by
  obtain ⟨hi, rfl⟩ := List.getElem?_eq_some_iff.mp h
  exact List.drop_eq_getElem_cons hi
theorem gXo_succ (o : Option Nat) (i : Nat) : gXo (o.map (· + 1)) i = gXo o (i + 1) := by
  cases o with
  | none => rfl
  | some j => simp only [Option.map_some, gXo]; congr 1; omega

theorem tree4 {α : Type} (P1 P2 P3 P4 : Prop) [Decidable P1] [Decidable P2] [Decidable P3] [Decidable P4] (X Y : α) : (if ¬ P1 then (if ¬ P3 then Y else if ¬ P4 then Y else X) else if P2 then X else (if ¬ P3 then Y else if ¬ P4 then Y else X)) = if ((decide P1 && decide P2) || (decide P3 && decide P4)) = true then X else Y := by
  by_cases h1 : P1 <;> by_cases h2 : P2 <;> by_cases h3 : P3 <;> by_cases h4 : P4 <;> simp [h1, h2, h3, h4]

theorem Net_lineBetween_loop {M : zM} {n : Nat} {E : List (Nat × Nat)} (hN : NetX M n E) (hW : gW n E) {a b : Nat} (ha : a < 12) (hb : b < 12) : ∀ (d i fuel : Nat), E.length - i = d → i ≤ E.length → d < fuel → fNet_lineBetween_2 fuel (nI a) (nI b) (nI i) M = some (gXo ((E.drop i).findIdx? (gS a b)) i, M) := by
  intro d
  induction d with
  | zero =>
    intro i fuel hd hi hf
    obtain ⟨fuel, rfl⟩ : ∃ k, fuel = k + 1 := ⟨fuel - 1, by omega⟩
    have : i = E.length := by omega
    subst this
    rw [fNet_lineBetween_2, if_pos (by rw [hN.2.1]; exact nI_le (Nat.le_refl _) (by have := hW.2.1; omega))]
    simp [gXo]
  | succ d ih =>
    intro i fuel hd hi hf
    obtain ⟨fuel, rfl⟩ : ∃ k, fuel = k + 1 := ⟨fuel - 1, by omega⟩
    have hlt : i < E.length := by omega
    obtain ⟨e, he⟩ : ∃ e, E[i]? = some e := ⟨_, List.getElem?_eq_getElem hlt⟩
    have hg := hW.get he
    have hm := hN.2.2.1 i e he
    have hn12 := hW.1.2
    have hl30 := hW.2.1
    have r : ∀ {c : Nat} {K : Int32 → Option (Int32 × zM)}, rd M c 30 (nI i) K = K (M c i) := rd_ok hg.1 (by decide)
    have q1 : (nI e.1 = nI a) ↔ e.1 = a := nI_eq (by omega) (by omega)
    have q2 : (nI e.2 = nI b) ↔ e.2 = b := nI_eq (by omega) (by omega)
    have q3 : (nI e.1 = nI b) ↔ e.1 = b := nI_eq (by omega) (by omega)
    have q4 : (nI e.2 = nI a) ↔ e.2 = a := nI_eq (by omega) (by omega)
    have hnext := ih (i + 1) fuel (by omega) (by omega) (by omega)
    rw [fNet_lineBetween_2, if_neg (by rw [hN.2.1]; exact nI_ge hlt (by omega)), drop_cons he, List.findIdx?_cons]
    simp only [r, fNet_lineBetween_30, hm.1, hm.2, q1, q2, q3, q4, nI_1, hnext]
    rw [tree4 (e.1 = a) (e.2 = b) (e.1 = b) (e.2 = a)]
    show (if gS a b e = true then _ else _) = _
    cases hs : gS a b e
    · simp only [Bool.false_eq_true, if_false, gXo_succ]
    · simp [gXo]
theorem Net_lineBetween_ok {M : zM} {n : Nat} {E : List (Nat × Nat)} (hN : NetX M n E) (hW : gW n E) {a b : Nat} (ha : a < 12) (hb : b < 12) : fNet_lineBetween (nI a) (nI b) M = some (gX E a b, M) := by
  unfold fNet_lineBetween
  exact Net_lineBetween_loop hN hW ha hb E.length 0 FU (by omega) (by omega) (by have := hW.2.1; unfold FU; omega)

theorem Md_lineOf_loop {M : zM} {n : Nat} {E : List (Nat × Nat)} (hN : NetY M n E) (hW : gW n E) {a b : Nat} (ha : a < 12) (hb : b < 12) : ∀ (d i fuel : Nat), E.length - i = d → i ≤ E.length → d < fuel → fMd_lineOf_2 fuel (nI a) (nI b) (nI i) M = some (gXo ((E.drop i).findIdx? (gS a b)) i, M) := by
  intro d
  induction d with
  | zero =>
    intro i fuel hd hi hf
    obtain ⟨fuel, rfl⟩ : ∃ k, fuel = k + 1 := ⟨fuel - 1, by omega⟩
    have : i = E.length := by omega
    subst this
    rw [fMd_lineOf_2, if_pos (by rw [hN.2.1]; exact nI_le (Nat.le_refl _) (by have := hW.2.1; omega))]
    simp [gXo]
  | succ d ih =>
    intro i fuel hd hi hf
    obtain ⟨fuel, rfl⟩ : ∃ k, fuel = k + 1 := ⟨fuel - 1, by omega⟩
    have hlt : i < E.length := by omega
    obtain ⟨e, he⟩ : ∃ e, E[i]? = some e := ⟨_, List.getElem?_eq_getElem hlt⟩
    have hg := hW.get he
    have hm := hN.2.2 i e he
    have hn12 := hW.1.2
    have hl30 := hW.2.1
    have r : ∀ {c : Nat} {K : Int32 → Option (Int32 × zM)}, rd M c 30 (nI i) K = K (M c i) := rd_ok hg.1 (by decide)
    have q1 : (nI e.1 = nI a) ↔ e.1 = a := nI_eq (by omega) (by omega)
    have q2 : (nI e.2 = nI b) ↔ e.2 = b := nI_eq (by omega) (by omega)
    have q3 : (nI e.1 = nI b) ↔ e.1 = b := nI_eq (by omega) (by omega)
    have q4 : (nI e.2 = nI a) ↔ e.2 = a := nI_eq (by omega) (by omega)
    have hnext := ih (i + 1) fuel (by omega) (by omega) (by omega)
    rw [fMd_lineOf_2, if_neg (by rw [hN.2.1]; exact nI_ge hlt (by omega)), drop_cons he, List.findIdx?_cons]
    simp only [r, fMd_lineOf_30, hm.1, hm.2, q1, q2, q3, q4, nI_1, hnext]
    rw [tree4 (e.1 = a) (e.2 = b) (e.1 = b) (e.2 = a)]
    show (if gS a b e = true then _ else _) = _
    cases hs : gS a b e
    · simp only [Bool.false_eq_true, if_false, gXo_succ]
    · simp [gXo]
theorem Md_lineOf_ok {M : zM} {n : Nat} {E : List (Nat × Nat)} (hN : NetY M n E) (hW : gW n E) {a b : Nat} (ha : a < 12) (hb : b < 12) : fMd_lineOf (nI a) (nI b) M = some (gX E a b, M) := by
  unfold fMd_lineOf
  exact Md_lineOf_loop hN hW ha hb E.length 0 FU (by omega) (by omega) (by have := hW.2.1; unfold FU; omega)
