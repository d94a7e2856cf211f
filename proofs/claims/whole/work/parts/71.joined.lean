/-! PURE: the names of the second kind, on both sides -/
def gIx : List Nat → Nat → Nat
  | [], _ => 0
  | a :: l, q => if a = q then 0 else gIx l q + 1
theorem gIx_get : ∀ {l : List Nat} {q : Nat}, q ∈ l → l[gIx l q]? = some q
  | [], q, h => by cases h
  | a :: l, q, h => by
    rw [gIx]
    by_cases ha : a = q
    · rw [if_pos ha, ha]
      rfl
    · rw [if_neg ha, List.getElem?_cons_succ]
      exact gIx_get (by
        rcases List.mem_cons.mp h with h1 | h1
        · exact absurd h1.symm ha
        · exact h1)
theorem gIx_eq {l : List Nat} (hl : l.Nodup) {i q : Nat} (h : l[i]? = some q) : gIx l q = i := nd_ix hl (gIx_get (List.mem_of_getElem? h)) h
theorem fup_fup {α : Type} {f : Nat → α} {k : Nat} {x y : α} : fup (fup f k x) k y = fup f k y := by
  funext j
  by_cases h : j = k
  · rw [h, fup_eq, fup_eq]
  · rw [fup_ne h, fup_ne h, fup_ne h]
def rg1 (P : Nat → Bool) (a : Nat) : Nat → List Nat
  | 0 => []
  | d + 1 => rg1 P a d ++ (if P (a + d) = true then [a + d] else [])
theorem rg1_len {P : Nat → Bool} {a : Nat} : ∀ d, (rg1 P a d).length ≤ d
  | 0 => Nat.le_refl _
  | d + 1 => by
    rw [rg1, List.length_append]
    have := rg1_len (P := P) (a := a) d
    by_cases h : P (a + d) = true
    · rw [if_pos h]
      simp
      omega
    · rw [if_neg h]
      simp
      omega
def upto (row : Nat → List Nat) (k : Nat) : Nat → List Nat := fun q => if q < k then row q else []
theorem upto_0 {row : Nat → List Nat} : upto row 0 = fun _ => [] := rfl
theorem upto_self {row : Nat → List Nat} {k : Nat} : upto row k k = [] := if_neg (by omega)
theorem upto_succ {row : Nat → List Nat} {k : Nat} : fup (upto row k) k (row k) = upto row (k + 1) := by
  funext q
  unfold upto
  by_cases h : q = k
  · rw [h, fup_eq, if_pos (by omega)]
  · rw [fup_ne h]
    by_cases h2 : q < k
    · rw [if_pos h2, if_pos (by omega)]
    · rw [if_neg h2, if_neg (by omega)]
def gSJ (n : Nat) (E : List (Nat × Nat)) : List Nat := sel (kyJ E) n n
def gTu (n : Nat) (E : List (Nat × Nat)) (q : Nat) : Nat := gIx (gSJ n E) q
def pJ (n : Nat) (E : List (Nat × Nat)) (q : Nat) (t : Nat) : Bool := gA E q ((gSJ n E).getD t 0)
def rowJ (n : Nat) (E : List (Nat × Nat)) (q : Nat) : List Nat := gTu n E q :: rg1 (pJ n E q) (gTu n E q + 1) (n - (gTu n E q + 1))
theorem gSJ_mem {n : Nat} {E : List (Nat × Nat)} {q : Nat} (hq : q < n) : q ∈ gSJ n E := by
  have h := (sel_ct (key := kyJ E) (n := n) n (Nat.le_refl _)).2.2.1
  exact of_decide_eq_true ((fb_ct_all.mp h) q hq)
theorem gSJ_len {n : Nat} {E : List (Nat × Nat)} : (gSJ n E).length = n := sel_len n
theorem gSJ_nd {n : Nat} {E : List (Nat × Nat)} : (gSJ n E).Nodup := (sel_ct (key := kyJ E) (n := n) n (Nat.le_refl _)).1
theorem gSJ_lt {n : Nat} {E : List (Nat × Nat)} {q : Nat} (h : q ∈ gSJ n E) : q < n := (sel_ct (key := kyJ E) (n := n) n (Nat.le_refl _)).2.1 q h
theorem gTu_get {n : Nat} {E : List (Nat × Nat)} {q : Nat} (hq : q < n) : (gSJ n E)[gTu n E q]? = some q := gIx_get (gSJ_mem hq)
theorem gTu_lt {n : Nat} {E : List (Nat × Nat)} {q : Nat} (hq : q < n) : gTu n E q < n := by
  have := (List.getElem?_eq_some_iff.mp (gTu_get (E := E) hq)).1
  rw [gSJ_len] at this
  exact this
theorem rowJ_len {n : Nat} {E : List (Nat × Nat)} {q : Nat} (hq : q < n) : (rowJ n E q).length ≤ n := by
  have h1 := rg1_len (P := pJ n E q) (a := gTu n E q + 1) (n - (gTu n E q + 1))
  have h2 := gTu_lt (E := E) hq
  show (rg1 _ _ _).length + 1 ≤ n
  omega
/-- the row of one post, in the class -/
theorem row_X {n : Nat} {E : List (Nat × Nat)} (hW : gW n E) {c0 : Nat} (hc : 23 ≤ c0) (hz : zln (c0 + 2) = 12 * 12) {M : zM} (hN : NetX M n E) (hS : selX M 17 18 (gSJ n E)) {nm : Nat → List Nat} {q : Nat} (hq : q < n) (hM : NmX M c0 12 (fup nm q [gTu n E q])) (k65 : Nat → Int32 → zM → Option (Unit × zM)) :
    ∃ M2, fLabels_nameJoined_97 k65 FU c0 (nI q) (nI (gTu n E q + 1)) M = k65 c0 (nI (q + 1)) M2 ∧ NmX M2 c0 12 (fup nm q (rowJ n E q)) ∧ fq (fun c _ => c = c0 + 1 ∨ c = c0 + 2) M M2 := by
  have hn := hW.1.2
  have ht := gTu_lt (E := E) hq
  have := lpE (f := fun fu k (_ : Unit) M => fLabels_nameJoined_97 k65 fu c0 (nI q) (nI (gTu n E q + 1 + k)) M) (n := n - (gTu n E q + 1))
    (I := fun k _ M' => NmX M' c0 12 (fup nm q (gTu n E q :: rg1 (pJ n E q) (gTu n E q + 1) k)) ∧ fq (fun c _ => c = c0 + 1 ∨ c = c0 + 2) M M')
    (R := fun o => ∃ M2, o = k65 c0 (nI (q + 1)) M2 ∧ NmX M2 c0 12 (fup nm q (rowJ n E q)) ∧ fq (fun c _ => c = c0 + 1 ∨ c = c0 + 2) M M2) ?_ ?_ 0 FU () M (by omega) (fu_ok (by omega)) ⟨hM, fq_rf⟩
  · exact this
  · rintro fu - M' ⟨h1, h2⟩
    have hN' := fq_net h2 hN (fun k => by omega)
    refine ⟨M', ?_, h1, h2⟩
    rw [fLabels_nameJoined_97, hN'.1, if_pos (nI_le (by omega) (by omega)), nI_1]
  · rintro fu k - M' hk ⟨h1, h2⟩
    right
    have hN' := fq_net h2 hN (fun k => by omega)
    have hk12 : gTu n E q + 1 + k < n := by omega
    obtain ⟨s, hs⟩ : ∃ s, (gSJ n E)[gTu n E q + 1 + k]? = some s := ⟨_, List.getElem?_eq_getElem (by rw [gSJ_len]; exact hk12)⟩
    have hsn := gSJ_lt (List.mem_of_getElem? hs)
    have hMs : M' 18 (gTu n E q + 1 + k) = nI s := by rw [h2 18 _ (by omega)]; exact (hS _ _ hs).2
    have hp : pJ n E q (gTu n E q + 1 + k) = gA E q s := by
      unfold pJ
      rw [List.getD_eq_getElem?_getD, hs]
      rfl
    have hlen : (gTu n E q :: rg1 (pJ n E q) (gTu n E q + 1) k).length < 12 := by
      have h1 := rg1_len (P := pJ n E q) (a := gTu n E q + 1) k
      show (rg1 _ _ _).length + 1 < 12
      omega
    rw [fLabels_nameJoined_97, hN'.1, if_neg (nI_ge hk12 (by omega)), rd_ok (show gTu n E q + 1 + k < 12 by omega) (by decide), hMs, joins_ok hN' (show q < 12 by omega) (show s < 12 by omega), cl_some, nI_1]
    rw [rg1, hp]
    cases hg : gA E q s with
    | false =>
      rw [bI_f, if_pos rfl, if_neg (by decide), List.append_nil]
      exact ⟨(), M', rfl, h1, h2⟩
    | true =>
      rw [bI_t, if_neg (by decide), if_pos rfl]
      obtain ⟨M2, a1, a2, a3⟩ := append_ok h1 (by decide) hz (a := gTu n E q + 1 + k) (show q < 12 by omega) (by rw [fup_eq]; exact hlen)
      rw [fup_fup, fup_eq] at a2
      refine ⟨(), M2, ?_, a2, fq_tr h2 (fq_fr a3 (fun c k hc => ⟨by simp; omega, rfl⟩))⟩
      rw [a1, cl_some]
      rfl
theorem rows_X {n : Nat} {E : List (Nat × Nat)} (hW : gW n E) {c0 : Nat} (hc : 23 ≤ c0) (hz : zln (c0 + 2) = 12 * 12) {M : zM} (hN : NetX M n E) (hS : selX M 17 18 (gSJ n E)) (hM : NmX M c0 12 (fun _ => [])) :
    ∃ M2, fLabels_nameJoined_65 FU c0 0 M = some ((), M2) ∧ NmX M2 c0 12 (upto (rowJ n E) n) ∧ fq (fun c _ => c = c0 + 1 ∨ c = c0 + 2) M M2 := by
  have hn := hW.1.2
  refine lpE (f := fun fu k (_ : Unit) M => fLabels_nameJoined_65 fu c0 (nI k) M) (n := n)
    (I := fun k _ M' => NmX M' c0 12 (upto (rowJ n E) k) ∧ fq (fun c _ => c = c0 + 1 ∨ c = c0 + 2) M M')
    (R := fun o => ∃ M2, o = some ((), M2) ∧ NmX M2 c0 12 (upto (rowJ n E) n) ∧ fq (fun c _ => c = c0 + 1 ∨ c = c0 + 2) M M2) ?_ ?_ 0 FU () M (by omega) (fu_ok (by omega)) ⟨hM, fq_rf⟩
  · rintro fu - M' ⟨h1, h2⟩
    have hN' := fq_net h2 hN (fun k => by omega)
    refine ⟨M', ?_, h1, h2⟩
    rw [fLabels_nameJoined_65, hN'.1, if_pos (nI_le (by omega) (by omega))]
  · rintro fu k - M' hk ⟨h1, h2⟩
    right
    have hN' := fq_net h2 hN (fun k => by omega)
    have hMt : M' 17 k = nI (gTu n E k) := by rw [h2 17 k (by omega)]; exact (hS _ _ (gTu_get hk)).1
    obtain ⟨M2, a1, a2, a3⟩ := append_ok h1 (by decide) hz (a := gTu n E k) (show k < 12 by omega) (by rw [upto_self]; decide)
    rw [upto_self] at a2
    have h3 : fq (fun c _ => c = c0 + 1 ∨ c = c0 + 2) M M2 := fq_tr h2 (fq_fr a3 (fun c k hc => ⟨by simp; omega, rfl⟩))
    have hS2 : selX M2 17 18 (gSJ n E) := fun i q hiq => by
      rw [h3 17 q (by omega), h3 18 i (by omega)]
      exact hS i q hiq
    obtain ⟨M3, b1, b2, b3⟩ := row_X hW hc hz (fq_net h3 hN (fun k => by omega)) hS2 hk a2 (fLabels_nameJoined_65 fu)
    rw [upto_succ] at b2
    refine ⟨(), M3, ?_, b2, fq_tr h3 b3⟩
    rw [fLabels_nameJoined_65, hN'.1, if_neg (nI_ge hk (by omega)), rd_ok (show k < 12 by omega) (by decide), hMt, a1, cl_some, rd_ok (show k < 12 by omega) (by decide), h3 17 k (by omega), lt_eq, (hS _ _ (gTu_get hk)).1, nI_1, b1]
theorem nameJoined_ok {n : Nat} {E : List (Nat × Nat)} (hW : gW n E) {c0 : Nat} (hc : 23 ≤ c0) (hz : zln (c0 + 2) = 12 * 12) {M : zM} (hN : NetX M n E) (hM : NmX M c0 12 (fun _ => [])) :
    ∃ M2, fLabels_nameJoined c0 M = some ((), M2) ∧ NmX M2 c0 12 (upto (rowJ n E) n) ∧ selX M2 17 18 (gSJ n E) ∧ fq (fun c _ => c = 17 ∨ c = 18 ∨ c = c0 + 1 ∨ c = c0 + 2) M M2 := by
  obtain ⟨M1, a1, a2, a3⟩ := turns_X hW (c0 := c0) hN
  have hM1 : NmX M1 c0 12 (fun _ => []) := ⟨(a3 c0 1 (by omega)).trans hM.1, fun q hq => by rw [a3 (c0 + 1) q (by omega)]; exact ⟨(hM.2 q hq).1, Nat.zero_le _, fun j a hj => (by cases hj)⟩⟩
  obtain ⟨M2, b1, b2, b3⟩ := rows_X hW hc hz (fq_net a3 hN (fun k => by omega)) a2 hM1
  refine ⟨M2, by rw [a1, b1], b2, fun i q hiq => ?_, fq_tr (fq_mono a3 (fun c k h => by omega)) (fq_mono b3 (fun c k h => by omega))⟩
  rw [b3 17 q (by omega), b3 18 i (by omega)]
  exact a2 i q hiq
