/-! PURE: THE TREE, as both grow it -/
abbrev tT : Type := List Nat × (Nat → Option Nat) × (Nat → Nat) × (Nat → Nat) × (Nat → Nat) × (Nat → Option Nat) × Nat
abbrev tO (T : tT) : List Nat := T.1
abbrev tP (T : tT) : Nat → Option Nat := T.2.1
abbrev tR (T : tT) : Nat → Nat := T.2.2.1
abbrev tA (T : tT) : Nat → Nat := T.2.2.2.1
abbrev tD (T : tT) : Nat → Nat := T.2.2.2.2.1
abbrev tL (T : tT) : Nat → Option Nat := T.2.2.2.2.2.1
abbrev tN (T : tT) : Nat := T.2.2.2.2.2.2
def fup {α : Type} (f : Nat → α) (k : Nat) (x : α) : Nat → α := fun j => if j = k then x else f j
theorem fup_eq {α : Type} {f : Nat → α} {k : Nat} {x : α} : fup f k x k = x := if_pos rfl
theorem fup_ne {α : Type} {f : Nat → α} {k j : Nat} {x : α} (h : ¬ j = k) : fup f k x j = f j := if_neg h
/-- the number of the line between two that are joined -/
def gL (E : List (Nat × Nat)) (a b : Nat) : Nat := (E.findIdx? (gS a b)).getD 0
theorem gX_adj {E : List (Nat × Nat)} {a b : Nat} (h : gA E a b = true) : gX E a b = nI (gL E a b) ∧ gL E a b < E.length := by
  unfold gX gL
  cases hf : E.findIdx? (gS a b) with
  | none =>
    rw [List.findIdx?_eq_none_iff] at hf
    obtain ⟨e, he, hs⟩ := List.any_eq_true.mp h
    rw [hf e he] at hs
    cases hs
  | some j =>
    refine ⟨by simp [gXo], ?_⟩
    obtain ⟨hj, _⟩ := List.findIdx?_eq_some_iff_getElem.mp hf
    exact hj
theorem gX_not {E : List (Nat × Nat)} {a b : Nat} (h : gA E a b = false) : gX E a b = -1 := by
  unfold gX
  have : E.findIdx? (gS a b) = none := by
    rw [List.findIdx?_eq_none_iff]
    intro e he
    have := List.any_eq_false.mp h e he
    simpa using this
  rw [this]
  rfl
def tAdd (E : List (Nat × Nat)) (p r q : Nat) (T : tT) : tT := (tO T ++ [q], fup (tP T) q (some p), fup (tR T) q r, fup (tA T) q (tA T p ||| 2 ^ gL E p q), fup (tD T) q (tD T p + 1), fup (tL T) q (some (gL E p q)), tN T)
def tNew (r : Nat) (T : tT) : tT := (tO T ++ [r], fup (tP T) r none, fup (tR T) r r, fup (tA T) r 0, fup (tD T) r 0, fup (tL T) r none, tN T + 1)
def tIn (E : List (Nat × Nat)) (p r : Nat) : List Nat → tT → tT
  | [], T => T
  | q :: qs, T => tIn E p r qs (if gA E p q = true ∧ ¬ q ∈ tO T then tAdd E p r q T else T)
def tOut (E : List (Nat × Nat)) (n r : Nat) : Nat → Nat → tT → tT
  | 0, _, T => T
  | d + 1, i, T => if i < (tO T).length then tOut E n r d (i + 1) (tIn E ((tO T).getD i 0) r (List.range' 0 n) T) else T
def tAll (E : List (Nat × Nat)) (n : Nat) : List Nat → tT → tT
  | [], T => T
  | r :: rs, T => tAll E n rs (if r ∈ tO T then T else tOut E n r (12 - (tO T).length) (tO T).length (tNew r T))
def tZero : tT := ([], fun _ => none, fun _ => 0, fun _ => 0, fun _ => 0, fun _ => none, 0)
def gTree (n : Nat) (E : List (Nat × Nat)) : tT := tAll E n (List.range' 0 n) tZero
/-- what always holds of it -/
def tW (n : Nat) (T : tT) : Prop := (tO T).Nodup ∧ (∀ q ∈ tO T, q < n) ∧ (∀ q, tA T q < 2 ^ 30) ∧ tN T ≤ (tO T).length
theorem nodup_len {n : Nat} {l : List Nat} (h : l.Nodup) (hb : ∀ q ∈ l, q < n) : l.length ≤ n := by
  refine fb_holes n l.length (fun i => l.getD i 0) (fun i hi => ?_) (fun i j hij hj => ?_)
  · rw [List.getD_eq_getElem?_getD, List.getElem?_eq_getElem hi]
    exact hb _ (List.getElem_mem hi)
  · rw [List.getD_eq_getElem?_getD, List.getElem?_eq_getElem (by omega), List.getD_eq_getElem?_getD, List.getElem?_eq_getElem hj]
    exact List.pairwise_iff_getElem.mp h i j (by omega) hj hij
theorem tW.len {n : Nat} {T : tT} (h : tW n T) : (tO T).length ≤ n := nodup_len h.1 h.2.1
theorem tW_add {n : Nat} {E : List (Nat × Nat)} (hW : gW n E) {T : tT} (h : tW n T) {p r q : Nat} (hq : q < n) (hno : ¬ q ∈ tO T) (hpq : gA E p q = true) : tW n (tAdd E p r q T) := by
  refine ⟨?_, fun x hx => ?_, fun x => ?_, ?_⟩
  · show (tO T ++ [q]).Nodup
    rw [List.nodup_append]
    refine ⟨h.1, by simp, fun a ha b hb => ?_⟩
    simp only [List.mem_singleton] at hb
    subst hb
    exact fun z => hno (z ▸ ha)
  · rcases List.mem_append.mp hx with h1 | h1
    · exact h.2.1 x h1
    · simp only [List.mem_singleton] at h1
      omega
  · show fup (tA T) q (tA T p ||| 2 ^ gL E p q) x < 2 ^ 30
    by_cases hx : x = q
    · rw [hx, fup_eq]
      exact or_lt (h.2.2.1 p) (pow_ltk (by have := (gX_adj hpq).2; have := hW.2.1; omega))
    · rw [fup_ne hx]
      exact h.2.2.1 x
  · show tN T ≤ (tO T ++ [q]).length
    rw [List.length_append]
    have := h.2.2.2
    omega
theorem tW_new {n : Nat} {T : tT} (h : tW n T) {r : Nat} (hr : r < n) (hno : ¬ r ∈ tO T) : tW n (tNew r T) := by
  refine ⟨?_, fun x hx => ?_, fun x => ?_, ?_⟩
  · show (tO T ++ [r]).Nodup
    rw [List.nodup_append]
    refine ⟨h.1, by simp, fun a ha b hb => ?_⟩
    simp only [List.mem_singleton] at hb
    subst hb
    exact fun z => hno (z ▸ ha)
  · rcases List.mem_append.mp hx with h1 | h1
    · exact h.2.1 x h1
    · simp only [List.mem_singleton] at h1
      omega
  · show fup (tA T) r 0 x < 2 ^ 30
    by_cases hx : x = r
    · rw [hx, fup_eq]
      decide
    · rw [fup_ne hx]
      exact h.2.2.1 x
  · show tN T + 1 ≤ (tO T ++ [r]).length
    rw [List.length_append]
    have := h.2.2.2
    simp
    omega
theorem tW_zero (n : Nat) : tW n tZero := ⟨List.nodup_nil, fun q hq => (by cases hq), fun q => (by show 0 < 2 ^ 30; decide), Nat.le_refl _⟩
def oI : Option Nat → Int32
  | some p => nI p
  | none => -1
/-- the class's tree while it grows -/
def SX (M : zM) (n : Nat) (T : tT) : Prop := M 5 10 = nI (tO T).length ∧ M 5 11 = nI (mkM (fun q => decide (q ∈ tO T)) 12) ∧ M 5 1 = nI (tN T) ∧ M 5 2 = nI (mkM (fun k => decide (∃ q ∈ tO T, tL T q = some k)) 30) ∧ (∀ (i q : Nat), (tO T)[i]? = some q → M 12 i = nI q) ∧ ∀ q ∈ tO T, M 6 q = oI (tP T q) ∧ M 7 q = nI (tR T q) ∧ M 8 q = nI (tA T q)
theorem SX.kept {M M2 : zM} {n : Nat} {T : tT} (h : SX M n T) (h1 : M2 5 1 = M 5 1 ∧ M2 5 2 = M 5 2 ∧ M2 5 10 = M 5 10 ∧ M2 5 11 = M 5 11) (h2 : M2 6 = M 6 ∧ M2 7 = M 7 ∧ M2 8 = M 8 ∧ M2 12 = M 12) : SX M2 n T :=
  ⟨h1.2.2.1.trans h.1, h1.2.2.2.trans h.2.1, h1.1.trans h.2.2.1, h1.2.1.trans h.2.2.2.1, fun ii qq hq => by rw [h2.2.2.2]; exact h.2.2.2.2.1 ii qq hq, fun qq hq => by rw [h2.1, h2.2.1, h2.2.2.1]; exact h.2.2.2.2.2 qq hq⟩
theorem mem_app1 {α : Type} {x y : α} {l : List α} : x ∈ l ++ [y] ↔ x ∈ l ∨ x = y := by simp
theorem own_add {E : List (Nat × Nat)} {T : tT} {p r q : Nat} (hno : ¬ q ∈ tO T) (j : Nat) : decide (∃ x ∈ tO (tAdd E p r q T), tL (tAdd E p r q T) x = some j) = (decide (∃ x ∈ tO T, tL T x = some j) || decide (gL E p q = j)) := by
  rw [Bool.eq_iff_iff]
  simp only [Bool.or_eq_true, decide_eq_true_eq]
  constructor
  · rintro ⟨x, hx, hl⟩
    have hl : fup (tL T) q (some (gL E p q)) x = some j := hl
    by_cases hxq : x = q
    · rw [hxq, fup_eq] at hl
      exact Or.inr (Option.some.inj hl)
    · rw [fup_ne hxq] at hl
      rcases mem_app1.mp hx with h1 | h1
      · exact Or.inl ⟨x, h1, hl⟩
      · exact absurd h1 hxq
  · rintro (⟨x, hx, hl⟩ | hj)
    · refine ⟨x, mem_app1.mpr (Or.inl hx), ?_⟩
      show fup (tL T) q (some (gL E p q)) x = some j
      rw [fup_ne (fun z : x = q => hno (z ▸ hx))]
      exact hl
    · refine ⟨q, mem_app1.mpr (Or.inr rfl), ?_⟩
      show fup (tL T) q (some (gL E p q)) q = some j
      rw [fup_eq, hj]
/-- one post more, in the class -/
theorem SX_add {M : zM} {n : Nat} {E : List (Nat × Nat)} (hW : gW n E) (hN : NetX M n E) {T : tT} (hT : tW n T) (hS : SX M n T) {p r q : Nat} (hp : p ∈ tO T) (hq : q < n) (hno : ¬ q ∈ tO T) (hpq : gA E p q = true) {k : Int32 → Int32 → zM → Option (Unit × zM)} {fuel : Nat} {i : Int32} :
    ∃ M2, fTree_growFrom_73 k (fuel + 1) (nI r) i (nI p) (nI q) M = fTree_growFrom_73 k fuel (nI r) i (nI p) (nI (q + 1)) M2 ∧ SX M2 n (tAdd E p r q T) ∧ fr [6, 7, 8, 12] [(5, 2), (5, 10), (5, 11)] M M2 := by
  have hn := hW.1.2
  have hlen := hT.len
  have hp12 : p < 12 := by have := hT.2.1 p hp; omega
  have hlen2 : (tO T).length < 12 := by
    have := (tW_add hW hT (r := r) hq hno hpq).len
    rw [show (tO (tAdd E p r q T)) = tO T ++ [q] from rfl, List.length_append] at this
    simp at this
    omega
  have hgl := gX_adj hpq
  have hl30 := hW.2.1
  have hqp : ¬ p = q := fun z => hno (z ▸ hp)
  obtain ⟨w2, hw2⟩ : ∃ w2 : Nat, w2 = mkM (fun k => decide (∃ q ∈ tO T, tL T q = some k)) 30 ||| 2 ^ gL E p q := ⟨_, rfl⟩
  obtain ⟨w11, hw11⟩ : ∃ w2 : Nat, w2 = mkM (fun q => decide (q ∈ tO T)) 12 ||| 2 ^ q := ⟨_, rfl⟩
  obtain ⟨M2, hM2⟩ : ∃ M2 : zM, M2 = zs (zs (zs (zs (zs (zs (zs M 5 2 (nI w2)) 6 q (nI p)) 7 q (nI r)) 8 q (nI (tA T p ||| 2 ^ gL E p q))) 5 11 (nI w11)) 12 (tO T).length (nI q)) 5 10 (nI ((tO T).length + 1)) := ⟨_, rfl⟩
  have a5 : ∀ kk, M2 5 kk = if kk = 10 then nI ((tO T).length + 1) else if kk = 11 then nI w11 else if kk = 2 then nI w2 else M 5 kk := by intro kk; rw [hM2]; simp [zs_at]
  have a6 : ∀ kk, M2 6 kk = if kk = q then nI p else M 6 kk := by intro kk; rw [hM2]; simp [zs_at]
  have a7 : ∀ kk, M2 7 kk = if kk = q then nI r else M 7 kk := by intro kk; rw [hM2]; simp [zs_at]
  have a8 : ∀ kk, M2 8 kk = if kk = q then nI (tA T p ||| 2 ^ gL E p q) else M 8 kk := by intro kk; rw [hM2]; simp [zs_at]
  have a12 : ∀ kk, M2 12 kk = if kk = (tO T).length then nI q else M 12 kk := by intro kk; rw [hM2]; simp [zs_at]
  have hfr : fr [6, 7, 8, 12] [(5, 2), (5, 10), (5, 11)] M M2 := by rw [hM2]; exact fr_zp (fr_zs (fr_zp (fr_zs (fr_zs (fr_zs (fr_zp fr_rf rfl) rfl) rfl) rfl) rfl) rfl) rfl
  refine ⟨M2, ?_, ?_, hfr⟩
  · rw [fTree_growFrom_73, if_neg (by rw [hN.1]; exact nI_ge hq (by omega)), joins_ok hN hp12 (by omega), cl_some, hpq, if_neg (by decide), hS.2.1, zbit (Nat.lt_trans (mkM_lt _ _) (by decide)) (by omega), mkM_bit]
    simp only [hno, decide_false, Bool.and_false, bI_f, not_true, if_false]
    rw [Net_lineBetween_ok hN hW hp12 (by omega), cl_some, hgl.1, lt_eq, zshl_pow (by omega)]
    unfold fTree_place
    simp only [wf_eq, wr_ok (show q < 12 by omega) (show 12 < 2 ^ 31 by decide), rd_ok hp12 (show 12 < 2 ^ 31 by decide), zshl_pow (show q < 31 by omega), hS.2.2.2.1, fa_or,
      zs_nc (show ¬ 8 = 5 by decide), zs_nc (show ¬ 8 = 6 by decide), zs_nc (show ¬ 8 = 7 by decide), (hS.2.2.2.2.2 p hp).2.2,
      zs_nc (show ¬ 5 = 6 by decide), zs_nc (show ¬ 5 = 7 by decide), zs_nc (show ¬ 5 = 8 by decide), zs_nc (show ¬ 5 = 12 by decide), zs_nk (show ¬ 11 = 2 by decide), zs_nk (show ¬ 10 = 2 by decide), zs_nk (show ¬ 10 = 11 by decide), hS.2.1, hS.1,
      wr_ok hlen2 (show 12 < 2 ^ 31 by decide), cl_some, nI_1]
    rw [← hw2, ← hw11, ← hM2]
  · clear hM2
    refine ⟨?_, ?_, ?_, ?_, fun ii qq hii => ?_, fun qq hqq => ?_⟩
    · rw [a5, if_pos rfl]
      show _ = nI (tO T ++ [q]).length
      rw [List.length_append]
      rfl
    · rw [a5, if_neg (by decide), if_pos rfl, hw11]
      refine congrArg nI (mkM_of (or_lt (mkM_lt _ _) (pow_ltk (by omega))) (fun j hj => ?_))
      rw [Nat.testBit_or, mkM_bit, testBit_pow]
      simp only [hj, decide_true, Bool.true_and]
      rw [Bool.eq_iff_iff]
      simp only [Bool.or_eq_true, decide_eq_true_eq]
      show _ ↔ j ∈ tO T ++ [q]
      rw [mem_app1]
      constructor
      · rintro (h1 | h1)
        · exact Or.inl h1
        · exact Or.inr h1.symm
      · rintro (h1 | h1)
        · exact Or.inl h1
        · exact Or.inr h1.symm
    · rw [a5, if_neg (by decide), if_neg (by decide), if_neg (by decide)]
      exact hS.2.2.1
    · rw [a5, if_neg (by decide), if_neg (by decide), if_pos rfl, hw2]
      refine congrArg nI (mkM_of (or_lt (mkM_lt _ _) (pow_ltk (by omega))) (fun j hj => ?_))
      rw [Nat.testBit_or, mkM_bit, testBit_pow, own_add hno]
      simp only [hj, decide_true, Bool.true_and]
    · have hii : (tO T ++ [q])[ii]? = some qq := hii
      rw [a12]
      by_cases hi : ii < (tO T).length
      · rw [List.getElem?_append_left hi] at hii
        rw [if_neg (by omega)]
        exact hS.2.2.2.2.1 ii qq hii
      · rw [List.getElem?_append_right (by omega)] at hii
        have hlt := (List.getElem?_eq_some_iff.mp hii).1
        simp at hlt
        have hiie : ii = (tO T).length := by omega
        subst hiie
        simp at hii
        subst hii
        rw [if_pos rfl]
    · rw [a6, a7, a8]
      show _ = oI (fup (tP T) q (some p) qq) ∧ _ = nI (fup (tR T) q r qq) ∧ _ = nI (fup (tA T) q (tA T p ||| 2 ^ gL E p q) qq)
      by_cases hqe : qq = q
      · subst hqe
        rw [if_pos rfl, if_pos rfl, if_pos rfl, fup_eq, fup_eq, fup_eq]
        exact ⟨rfl, rfl, rfl⟩
      · rw [if_neg hqe, if_neg hqe, if_neg hqe, fup_ne hqe, fup_ne hqe, fup_ne hqe]
        rcases mem_app1.mp hqq with h1 | h1
        · exact hS.2.2.2.2.2 qq h1
        · exact absurd h1 hqe
