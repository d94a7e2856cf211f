/-! PURE: reading, the loop of the class -/
section lxS
variable {tx : List Nat} {p n : Nat} {E : List (Nat × Nat)}
abbrev zBx : Nat → Nat → Prop := fun c k => zAx c k ∨ (c = 56 ∧ k = 2)
def oRx (M2 : zM) : (Nat × Nat) ⊕ List (Nat × List Nat) → Prop
  | .inl (k, pl) => M2 56 4 = nI k ∧ M2 56 3 = nI pl
  | .inr Q => M2 56 4 = 0 ∧ M2 56 3 = -1 ∧ M2 56 6 = nI Q.length ∧ qX M2 Q
theorem fin_X {M : zM} {fu : Nat} {v : Int32} (h : ¬ M 56 4 = 0) : fScript_readAll_26 (fu + 1) v M = some ((zs M 56 2 0) 56 4, zs M 56 2 0) := by
  rw [fScript_readAll_26, if_pos h]
  split
  · rfl
  · split <;> rfl
end lxS
