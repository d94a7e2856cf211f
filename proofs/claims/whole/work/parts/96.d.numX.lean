/-! PURE: reading, numbers -/
def dg (tx : List Nat) (i : Nat) : Nat := ((tx[i]?).getD 0 - 48) % 10
def vd (tx : List Nat) (q : Nat) : Nat → Nat
  | 0 => 0
  | j + 1 => 10 * vd tx q j + dg tx (q + j)
def lmk (l : List Nat) : Nat := l.foldl (fun s v => s ||| 2 ^ v) 0
def pN (tx : List Nat) (n m mx : Nat) : Nat → List Nat → Nat → (Nat × Nat) ⊕ (List Nat × Nat)
  | 0, _, p => .inl (1, rnB blk tx p)
  | f + 1, acc, p =>
    if 2 ≤ acc.length ∧ tx[rnB blk tx p]? = some 59 then .inr (acc, rnB blk tx p)
    else if mx ≤ acc.length ∨ figO tx (rnB blk tx p) = false then .inl (1, rnB blk tx p)
    else if 2 < rnB fig tx (rnB blk tx p) - rnB blk tx p then .inl (2, rnB blk tx p)
    else if vd tx (rnB blk tx p) (rnB fig tx (rnB blk tx p) - rnB blk tx p) < (if 2 ≤ acc.length then m else n) then pN tx n m mx f (acc ++ [vd tx (rnB blk tx p) (rnB fig tx (rnB blk tx p) - rnB blk tx p)]) (rnB fig tx (rnB blk tx p))
    else .inl (3, rnB blk tx p)
def vOk (n m : Nat) (acc : List Nat) : Prop := ∀ i v : Nat, acc[i]? = some v → v < if 2 ≤ i then m else n
section nuS
variable {tx : List Nat} {p q b n m mx : Nat}
theorem vd_lt (tx : List Nat) (q : Nat) : ∀ j, vd tx q j < 10 ^ j
  | 0 => Nat.zero_lt_one
  | j + 1 => by
    have h1 := vd_lt tx q j
    have h2 : dg tx (q + j) < 10 := Nat.mod_lt _ (by decide)
    rw [vd, Nat.pow_succ]
    omega
theorem vd_99 {j : Nat} (h : j ≤ 2) : vd tx q j ≤ 99 := by
  have := vd_lt tx q j
  rcases (show j = 0 ∨ j = 1 ∨ j = 2 by omega) with rfl | rfl | rfl <;> simp at this <;> omega
theorem dg_fig {i : Nat} (h : tx[i]? = some b) (hf : fig b = true) : dg tx i = b - 48 ∧ 48 ≤ b ∧ b ≤ 57 := by
  have : 48 ≤ b ∧ b ≤ 57 := by simpa [fig] using hf
  refine ⟨?_, this⟩
  unfold dg
  rw [h]
  simp
  omega
theorem vOk_push {acc : List Nat} (h : vOk n m acc) {v : Nat} (hv : v < if 2 ≤ acc.length then m else n) : vOk n m (acc ++ [v]) := by
  intro i w hi
  by_cases hl : i < acc.length
  · rw [List.getElem?_append_left hl] at hi
    exact h i w hi
  · rw [List.getElem?_append_right (by omega)] at hi
    have h1 : i - acc.length = 0 := by
      have := (List.getElem?_eq_some_iff.mp hi).1
      simp at this
      omega
    rw [h1] at hi
    have h2 : v = w := by simpa using hi
    rw [← h2, show i = acc.length by omega]
    exact hv
theorem pN_ok (hmx : 2 ≤ mx) : ∀ (f : Nat) (acc : List Nat) (p : Nat), p ≤ tx.length → acc.length ≤ mx → vOk n m acc →
    (∀ k pl, pN tx n m mx f acc p = .inl (k, pl) → 1 ≤ k ∧ k ≤ 3 ∧ pl ≤ tx.length) ∧ ∀ acc2 s, pN tx n m mx f acc p = .inr (acc2, s) → 2 ≤ acc2.length ∧ acc2.length ≤ mx ∧ vOk n m acc2 ∧ s < tx.length ∧ tx[s]? = some 59
  | 0, acc, p, hp, hl, hv => by
    refine ⟨fun k pl h => ?_, fun a s h => (by cases h)⟩
    have := Sum.inl.inj h
    rw [← (Prod.mk.inj this).1, ← (Prod.mk.inj this).2]
    exact ⟨by omega, by omega, rnB_le hp⟩
  | f + 1, acc, p, hp, hl, hv => by
    have hs := rnB_le (f := blk) hp
    rw [pN]
    generalize rnB blk tx p = s at hs ⊢
    have he := rnB_le (f := fig) hs
    generalize rnB fig tx s = e at he ⊢
    have lft : ∀ k0, 1 ≤ k0 → k0 ≤ 3 → (∀ k pl, (Sum.inl (k0, s) : (Nat × Nat) ⊕ (List Nat × Nat)) = .inl (k, pl) → 1 ≤ k ∧ k ≤ 3 ∧ pl ≤ tx.length) ∧ ∀ acc2 s2, (Sum.inl (k0, s) : (Nat × Nat) ⊕ (List Nat × Nat)) = .inr (acc2, s2) → 2 ≤ acc2.length ∧ acc2.length ≤ mx ∧ vOk n m acc2 ∧ s2 < tx.length ∧ tx[s2]? = some 59 := fun k0 h1 h2 => by
      refine ⟨fun k pl h => ?_, fun a s h => (by cases h)⟩
      have := Sum.inl.inj h
      rw [← (Prod.mk.inj this).1, ← (Prod.mk.inj this).2]
      exact ⟨h1, h2, hs⟩
    by_cases c1 : 2 ≤ acc.length ∧ tx[s]? = some 59
    · rw [if_pos c1]
      refine ⟨fun k pl h => (by cases h), fun a s2 h => ?_⟩
      have := Sum.inr.inj h
      rw [← (Prod.mk.inj this).1, ← (Prod.mk.inj this).2]
      exact ⟨c1.1, hl, hv, (List.getElem?_eq_some_iff.mp c1.2).1, c1.2⟩
    · rw [if_neg c1]
      by_cases c2 : mx ≤ acc.length ∨ figO tx s = false
      · rw [if_pos c2]
        exact lft 1 (by omega) (by omega)
      · rw [if_neg c2]
        by_cases c3 : 2 < e - s
        · rw [if_pos c3]
          exact lft 2 (by omega) (by omega)
        · rw [if_neg c3]
          by_cases c4 : vd tx s (e - s) < if 2 ≤ acc.length then m else n
          · rw [if_pos c4]
            refine pN_ok hmx f _ _ he ?_ (vOk_push hv c4)
            rw [List.length_append]
            simp
            omega
          · rw [if_neg c4]
            exact lft 3 (by omega) (by omega)
/-! the class -/
def nX (M : zM) (d : Nat) (acc : List Nat) : Prop := M 56 6 = nI d ∧ (∀ v, acc[0]? = some v → M 59 d = nI v) ∧ (∀ v, acc[1]? = some v → M 60 d = nI v) ∧ M 61 d = nI (lmk (acc.drop 2))
abbrev zNu (d : Nat) : Nat → Nat → Prop := fun c k => (c = 56 ∧ (k = 3 ∨ k = 4 ∨ k = 5)) ∨ (59 ≤ c ∧ c ≤ 61 ∧ k = d)
theorem run_X (ht : tOk tx) {i : Int32} : ∀ (fu r : Nat) (M : zM), tx.length < r + fu → q ≤ r → r ≤ tx.length → tX M tx r → ∃ M2, fScript_readNumber_7 fu i (nI q) (nI (vd tx q (if r - q ≤ 2 then r - q else 2))) M = fScript_readNumber_74 i (nI q) (nI (vd tx q (if rnB fig tx r - q ≤ 2 then rnB fig tx r - q else 2))) M2 ∧ tX M2 tx (rnB fig tx r) ∧ fq (fun c k => c = 56 ∧ k = 5) M M2 := by
  have ht1 := ht.1
  intro fu
  induction fu with
  | zero => intro r M h1 h2 h3; omega
  | succ fu ih =>
    intro r M h1 h2 h3 h4
    rw [fScript_readNumber_7, h4.1, h4.2.2]
    by_cases hl : tx.length ≤ r
    · rw [if_pos (nI_le hl (by omega)), rnB_end hl]
      exact ⟨M, rfl, h4, fq_rf⟩
    · obtain ⟨b, hb, hb2⟩ := tOk_get ht (show r < tx.length by omega)
      rw [if_neg (nI_ge (by omega) (by omega)), isFigure_X ht h4 hb, cl_some]
      cases hf : fig b
      · rw [bI_f, if_pos rfl, rnB_no hb hf]
        exact ⟨M, rfl, h4, fq_rf⟩
      · have hq : fq (fun c k => c = 56 ∧ k = 5) M (zs M 56 5 (nI (r + 1))) := fq_zs fq_rf ⟨rfl, rfl⟩
        obtain ⟨M2, g1, g2, g3⟩ := ih (r + 1) (zs M 56 5 (nI (r + 1))) (by omega) (by omega) (by omega) (tX_to h4 hq zs_eq)
        rw [bI_t, if_neg (by decide), h4.2.2, pk_sub h2, rnB_go hb hf]
        refine ⟨M2, ?_, g2, fq_tr hq g3⟩
        by_cases h5 : 2 ≤ r - q
        · rw [if_pos (show (2 : Int32) ≤ nI (r - q) from nI_le (a := 2) h5 (by omega)), wf_eq, nI_1, ← g1]
          have : (if r + 1 - q ≤ 2 then r + 1 - q else 2) = if r - q ≤ 2 then r - q else 2 := by
            rw [if_neg (by omega)]
            split <;> omega
          rw [this]
        · obtain ⟨d1, d2, d3⟩ := dg_fig hb hf
          have hv := vd_99 (tx := tx) (q := q) (show r - q ≤ 2 by omega)
          rw [if_neg (show ¬ (2 : Int32) ≤ nI (r - q) from nI_ge (b := 2) (by omega) (by omega)), rd_ok (show r < 200 by omega) (by decide), h4.2.1 r b hb, b_figv b hb2 hf, lt_eq, wf_eq, nI_1, ← g1, if_pos (show r - q ≤ 2 by omega), if_pos (show r + 1 - q ≤ 2 by omega)]
          have e1 : r + 1 - q = (r - q) + 1 := by omega
          have e2 : q + (r - q) = r := by omega
          rw [e1, vd, e2, d1, show (10 : Int32) = nI 10 from rfl, show (48 : Int32) = nI 48 from rfl, nI_times, nI_add, pk_sub (by omega)]
          congr 2
          omega
end nuS
