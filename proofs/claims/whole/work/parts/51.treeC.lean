/-! PURE: what the tree's rows mean -/
def tC (E : List (Nat × Nat)) (T : tT) : Prop := ∀ q ∈ tO T, tD T q < (tO T).length ∧ ((tP T q = none ∧ tA T q = 0 ∧ tL T q = none ∧ tR T q = q ∧ tD T q = 0) ∨ ∃ p ∈ tO T, tP T q = some p ∧ gA E p q = true ∧ tA T q = tA T p ||| 2 ^ gL E p q ∧ tL T q = some (gL E p q) ∧ tR T q = tR T p ∧ tD T q = tD T p + 1)
/-- a later tree: the same rows, more posts, whose root is r -/
def tE (r : Nat) (T T2 : tT) : Prop := ∃ s : List Nat, tO T2 = tO T ++ s ∧ (∀ x ∈ s, ¬ x ∈ tO T) ∧ (∀ x ∈ s, tR T2 x = r) ∧ ∀ x ∈ tO T, tP T2 x = tP T x ∧ tR T2 x = tR T x ∧ tA T2 x = tA T x ∧ tD T2 x = tD T x ∧ tL T2 x = tL T x
theorem tE_rf {r : Nat} {T : tT} : tE r T T := ⟨[], by simp, fun _ h => (by cases h), fun _ h => (by cases h), fun _ _ => ⟨rfl, rfl, rfl, rfl, rfl⟩⟩
theorem tE_tr {r : Nat} {T T2 T3 : tT} (h : tE r T T2) (h2 : tE r T2 T3) : tE r T T3 := by
  obtain ⟨s, a1, a2, a3, a4⟩ := h
  obtain ⟨s2, b1, b2, b3, b4⟩ := h2
  refine ⟨s ++ s2, by rw [b1, a1, List.append_assoc], fun x hx => ?_, fun x hx => ?_, fun x hx => ?_⟩
  · rcases List.mem_append.mp hx with h | h
    · exact a2 x h
    · exact fun z => b2 x h (by rw [a1]; exact List.mem_append_left _ z)
  · rcases List.mem_append.mp hx with h | h
    · rw [(b4 x (by rw [a1]; exact List.mem_append_right _ h)).2.1]
      exact a3 x h
    · exact b3 x h
  · have h1 := b4 x (by rw [a1]; exact List.mem_append_left _ hx)
    have h2 := a4 x hx
    exact ⟨h1.1.trans h2.1, h1.2.1.trans h2.2.1, h1.2.2.1.trans h2.2.2.1, h1.2.2.2.1.trans h2.2.2.2.1, h1.2.2.2.2.trans h2.2.2.2.2⟩
theorem tE_add {E : List (Nat × Nat)} {T : tT} {p r q : Nat} (hno : ¬ q ∈ tO T) : tE r T (tAdd E p r q T) := by
  refine ⟨[q], rfl, fun x hx => ?_, fun x hx => ?_, fun x hx => ?_⟩
  · simp only [List.mem_singleton] at hx
    subst hx
    exact hno
  · simp only [List.mem_singleton] at hx
    subst hx
    exact fup_eq
  · have hxq : ¬ x = q := fun z => hno (z ▸ hx)
    exact ⟨fup_ne hxq, fup_ne hxq, fup_ne hxq, fup_ne hxq, fup_ne hxq⟩
theorem tE_new {T : tT} {r : Nat} (hno : ¬ r ∈ tO T) : tE r T (tNew r T) := by
  refine ⟨[r], rfl, fun x hx => ?_, fun x hx => ?_, fun x hx => ?_⟩
  · simp only [List.mem_singleton] at hx
    subst hx
    exact hno
  · simp only [List.mem_singleton] at hx
    subst hx
    exact fup_eq
  · have hxq : ¬ x = r := fun z => hno (z ▸ hx)
    exact ⟨fup_ne hxq, fup_ne hxq, fup_ne hxq, fup_ne hxq, fup_ne hxq⟩
/-- what holds of old posts holds on -/
theorem tC_old {E : List (Nat × Nat)} {r : Nat} {T T2 : tT} (hC : tC E T) (hE : tE r T T2) {x : Nat} (hx : x ∈ tO T) : tD T2 x < (tO T2).length ∧ ((tP T2 x = none ∧ tA T2 x = 0 ∧ tL T2 x = none ∧ tR T2 x = x ∧ tD T2 x = 0) ∨ ∃ p ∈ tO T2, tP T2 x = some p ∧ gA E p x = true ∧ tA T2 x = tA T2 p ||| 2 ^ gL E p x ∧ tL T2 x = some (gL E p x) ∧ tR T2 x = tR T2 p ∧ tD T2 x = tD T2 p + 1) := by
  obtain ⟨s, a1, a2, a3, a4⟩ := hE
  have h1 := a4 x hx
  obtain ⟨hd, hc⟩ := hC x hx
  refine ⟨by rw [h1.2.2.2.1, a1, List.length_append]; omega, ?_⟩
  rcases hc with ⟨c1, c2, c3, c4, c5⟩ | ⟨p, hp, c1, c2, c3, c4, c5, c6⟩
  · exact Or.inl ⟨h1.1.trans c1, h1.2.2.1.trans c2, h1.2.2.2.2.trans c3, h1.2.1.trans c4, h1.2.2.2.1.trans c5⟩
  · have h2 := a4 p hp
    refine Or.inr ⟨p, by rw [a1]; exact List.mem_append_left _ hp, h1.1.trans c1, c2, ?_, h1.2.2.2.2.trans c4, ?_, ?_⟩
    · rw [h1.2.2.1, h2.2.2.1]; exact c3
    · rw [h1.2.1, h2.2.1]; exact c5
    · rw [h1.2.2.2.1, h2.2.2.2.1]; exact c6
theorem tC_add {E : List (Nat × Nat)} {T : tT} {p r q : Nat} (hC : tC E T) (hp : p ∈ tO T) (hr : tR T p = r) (hno : ¬ q ∈ tO T) (hpq : gA E p q = true) : tC E (tAdd E p r q T) := by
  intro x hx
  rcases mem_app1.mp hx with h | h
  · exact tC_old hC (tE_add hno) h
  · subst h
    have hpx : ¬ p = x := fun z => hno (z ▸ hp)
    have hl : (tO (tAdd E p r x T)).length = (tO T).length + 1 := by
      show (tO T ++ [x]).length = _
      rw [List.length_append]
      rfl
    have hD : tD (tAdd E p r x T) x = tD T p + 1 := fup_eq
    refine ⟨by rw [hD, hl]; have := (hC p hp).1; omega, Or.inr ⟨p, mem_app1.mpr (Or.inl hp), fup_eq, hpq, ?_, fup_eq, ?_, ?_⟩⟩
    · show fup (tA T) x (tA T p ||| 2 ^ gL E p x) x = fup (tA T) x (tA T p ||| 2 ^ gL E p x) p ||| 2 ^ gL E p x
      rw [fup_eq, fup_ne hpx]
    · show fup (tR T) x r x = fup (tR T) x r p
      rw [fup_eq, fup_ne hpx, hr]
    · rw [hD]
      show _ = fup (tD T) x (tD T p + 1) p + 1
      rw [fup_ne hpx]
theorem tC_new {E : List (Nat × Nat)} {T : tT} {r : Nat} (hC : tC E T) (hno : ¬ r ∈ tO T) : tC E (tNew r T) := by
  intro x hx
  rcases mem_app1.mp hx with h | h
  · exact tC_old hC (tE_new hno) h
  · subst h
    refine ⟨?_, Or.inl ⟨fup_eq, fup_eq, fup_eq, fup_eq, fup_eq⟩⟩
    show fup (tD T) x 0 x < (tO T ++ [x]).length
    rw [fup_eq, List.length_append]
    simp
theorem tIn_C {E : List (Nat × Nat)} {p r : Nat} : ∀ (qs : List Nat) (T : tT), tC E T → p ∈ tO T → tR T p = r → tC E (tIn E p r qs T) ∧ tE r T (tIn E p r qs T)
  | [], T, hC, _, _ => ⟨hC, tE_rf⟩
  | q :: qs, T, hC, hp, hr => by
    rw [tIn]
    by_cases hc : gA E p q = true ∧ ¬ q ∈ tO T
    · rw [if_pos hc]
      have hpq : ¬ p = q := fun z => hc.2 (z ▸ hp)
      have h1 := tIn_C qs (tAdd E p r q T) (tC_add hC hp hr hc.2 hc.1) (mem_app1.mpr (Or.inl hp)) ((fup_ne hpq).trans hr)
      exact ⟨h1.1, tE_tr (tE_add hc.2) h1.2⟩
    · rw [if_neg hc]
      exact tIn_C qs T hC hp hr
theorem tOut_C {E : List (Nat × Nat)} {n r b : Nat} : ∀ (d i : Nat) (T : tT), tC E T → b ≤ i → (∀ j q : Nat, b ≤ j → (tO T)[j]? = some q → tR T q = r) → tC E (tOut E n r d i T) ∧ tE r T (tOut E n r d i T)
  | 0, _, T, hC, _, _ => ⟨hC, tE_rf⟩
  | d + 1, i, T, hC, hb, hr => by
    rw [tOut]
    by_cases hi : i < (tO T).length
    · rw [if_pos hi]
      have hp := getD_of hi
      have hpm := List.mem_of_getElem? hp
      have h1 := tIn_C (List.range' 0 n) T hC hpm (hr i _ hb hp)
      obtain ⟨s, a1, a2, a3, a4⟩ := h1.2
      have h2 := tOut_C (n := n) (r := r) (b := b) d (i + 1) _ h1.1 (by omega) (fun j q hj hq => by
        rw [a1] at hq
        by_cases hjl : j < (tO T).length
        · rw [List.getElem?_append_left hjl] at hq
          rw [(a4 q (List.mem_of_getElem? hq)).2.1]
          exact hr j q hj hq
        · rw [List.getElem?_append_right (by omega)] at hq
          exact a3 q (List.mem_of_getElem? hq))
      exact ⟨h2.1, tE_tr h1.2 h2.2⟩
    · rw [if_neg hi]
      exact ⟨hC, tE_rf⟩
theorem tAll_C {E : List (Nat × Nat)} {n : Nat} : ∀ (rs : List Nat) (T : tT), tC E T → tC E (tAll E n rs T)
  | [], _, hC => hC
  | r :: rs, T, hC => by
    rw [tAll]
    apply tAll_C rs
    split
    · exact hC
    · rename_i hno
      refine (tOut_C (b := (tO T).length) _ _ _ (tC_new hC hno) (Nat.le_refl _) (fun j q hj hq => ?_)).1
      have hq : (tO T ++ [r])[j]? = some q := hq
      rw [List.getElem?_append_right hj] at hq
      have hlt := (List.getElem?_eq_some_iff.mp hq).1
      simp at hlt
      rw [show j - (tO T).length = 0 by omega] at hq
      simp at hq
      subst hq
      exact fup_eq
theorem gTree_C (n : Nat) (E : List (Nat × Nat)) : tC E (gTree n E) := tAll_C _ _ (fun q hq => (by cases hq))
/-- wayUp -/
theorem wayUp_loop {M : zM} {n : Nat} {E : List (Nat × Nat)} (hW : gW n E) {T : tT} (hT : tW n T) (hC : tC E T) (hS : SY M n T) : ∀ (d q w fuel : Nat), q ∈ tO T → tD T q = d → d < fuel → fMd_wayUp_4 fuel (nI w) (nI q) M = some (nI (w ||| tA T q), M) := by
  intro d
  induction d with
  | zero =>
    intro q w fuel hq hd hf
    obtain ⟨fuel, rfl⟩ : ∃ k, fuel = k + 1 := ⟨fuel - 1, by omega⟩
    have hn := hW.1.2
    have hq12 : q < 12 := by have := hT.2.1 q hq; omega
    have h1 := (hC q hq).2
    rcases h1 with ⟨c1, c2, c3, c4, c5⟩ | ⟨p, hp, c1, c2, c3, c4, c5, c6⟩
    · rw [fMd_wayUp_4, rd_ok hq12 (by decide), (hS.2.1 q hq).1, c1, if_pos (by decide), c2, Nat.or_zero]
    · omega
  | succ d ih =>
    intro q w fuel hq hd hf
    obtain ⟨fuel, rfl⟩ : ∃ k, fuel = k + 1 := ⟨fuel - 1, by omega⟩
    have hn := hW.1.2
    have hl30 := hW.2.1
    have hq12 : q < 12 := by have := hT.2.1 q hq; omega
    have h1 := (hC q hq).2
    rcases h1 with ⟨c1, c2, c3, c4, c5⟩ | ⟨p, hp, c1, c2, c3, c4, c5, c6⟩
    · omega
    · have hp12 : p < 12 := by have := hT.2.1 p hp; omega
      have hgl := (gX_adj c2).2
      have h2 := hS.2.1 q hq
      rw [fMd_wayUp_4, rd_ok hq12 (by decide), h2.1, c1]
      show (if nI p < 0 then _ else _) = _
      rw [if_neg (nI_nlt0 (by omega)), rd_ok hq12 (by decide), h2.2.2.1, c4]
      show lt (nI w ||| zshl 1 (nI (gL E p q))) _ = _
      rw [zshl_pow (by omega), fa_or, lt_eq, rd_ok hq12 (by decide), h2.1, c1]
      show fMd_wayUp_4 fuel _ (nI p) M = _
      rw [ih p _ fuel hp (by omega) (by omega), c3]
      congr 3
      rw [Nat.or_assoc, Nat.or_comm (2 ^ gL E p q)]
theorem wayUp_ok {M : zM} {n : Nat} {E : List (Nat × Nat)} (hW : gW n E) {T : tT} (hT : tW n T) (hC : tC E T) (hS : SY M n T) {q : Nat} (hq : q ∈ tO T) : fMd_wayUp (nI q) M = some (nI (tA T q), M) := by
  have hlen := hT.len
  have hn := hW.1.2
  unfold fMd_wayUp
  have h := wayUp_loop hW hT hC hS (tD T q) q 0 FU hq rfl (by have := (hC q hq).1; unfold FU; omega)
  rw [nI_0, Nat.zero_or] at h
  exact h
