/-! PURE: reading, all questions, in the class -/
noncomputable def pR (tx : List Nat) (n m : Nat) : Nat → List (Nat × List Nat) → Nat → (Nat × Nat) ⊕ List (Nat × List Nat)
  | 0, _, p => .inl (4, p)
  | f + 1, Q, p => if tx.length ≤ p then .inr Q else match pQ tx n m Q.length p with
    | .inl x => .inl x
    | .inr (w, acc, s) => pR tx n m f (Q ++ [(w, acc)]) (rnB blk tx (s + 1))
def qX (M : zM) (Q : List (Nat × List Nat)) : Prop := ∀ (j w : Nat) (acc : List Nat), Q[j]? = some (w, acc) → M 58 j = nI w ∧ (∀ v, acc[0]? = some v → M 59 j = nI v) ∧ (∀ v, acc[1]? = some v → M 60 j = nI v) ∧ M 61 j = nI (lmk (acc.drop 2))
abbrev zAx : Nat → Nat → Prop := fun c k => (c = 56 ∧ 3 ≤ k ∧ k ≤ 6) ∨ (58 ≤ c ∧ c ≤ 61)
section loS
variable {tx : List Nat} {p n : Nat} {E : List (Nat × Nat)}
theorem pQ_12 {m d s w : Nat} {acc : List Nat} (h : pQ tx n m d p = .inr (w, acc, s)) : d < 12 ∧ w < 5 ∧ pN tx n m (wmx w) 9 [] (rnB ltr tx p) = .inr (acc, s) := by
  unfold pQ at h
  cases hw : wno tx p (rnB ltr tx p) 5 with
  | none =>
    rw [hw] at h
    cases h
  | some w2 =>
    rw [hw] at h
    by_cases hd : 12 ≤ d
    · simp only [if_pos hd] at h
      cases h
    · simp only [if_neg hd] at h
      cases hN : pN tx n m (wmx w2) 9 [] (rnB ltr tx p) with
      | inl x =>
        rw [hN] at h
        cases h
      | inr x =>
        obtain ⟨a2, s2⟩ := x
        rw [hN] at h
        have e := Sum.inr.inj h
        have e1 : w2 = w := (Prod.mk.inj e).1
        have e2 : (a2, s2) = (acc, s) := (Prod.mk.inj e).2
        refine ⟨by omega, ?_, ?_⟩
        · rw [← e1]
          exact wno_lt 5 w2 hw
        · rw [← e1, hN, e2]
end loS
