/-! PURE: the reference numbers the posts -/
def upn (T : tT) : Nat → Nat → Option Nat
  | 0, x => some x
  | j + 1, x => match tP T x with
    | none => none
    | some pp => upn T j pp
/-- x stands at q or below it -/
def und (T : tT) (q x : Nat) : Prop := ∃ j, upn T j x = some q
theorem und_self {T : tT} {q : Nat} : und T q q := ⟨0, rfl⟩
theorem und_up {T : tT} {q x pp : Nat} (h : tP T x = some pp) (hu : und T q pp) : und T q x := by
  obtain ⟨j, hj⟩ := hu
  refine ⟨j + 1, ?_⟩
  rw [upn, h]
  exact hj
theorem upn_snoc {T : tT} {q c : Nat} (h : tP T c = some q) : ∀ (j x : Nat), upn T j x = some c → upn T (j + 1) x = some q
  | 0, x, hx => by
    have : x = c := Option.some.inj hx
    rw [this, upn, h]
    rfl
  | j + 1, x, hx => by
    rw [upn] at hx ⊢
    cases hp : tP T x with
    | none =>
      rw [hp] at hx
      cases hx
    | some pp =>
      rw [hp] at hx
      exact upn_snoc h j pp hx
theorem und_kid {T : tT} {q c x : Nat} (h : tP T c = some q) (hu : und T c x) : und T q x := by
  obtain ⟨j, hj⟩ := hu
  exact ⟨j + 1, upn_snoc h j x hj⟩
theorem upn_last {T : tT} {q : Nat} : ∀ (j x : Nat), upn T (j + 1) x = some q → ∃ c, tP T c = some q ∧ upn T j x = some c
  | 0, x, hx => by
    rw [upn] at hx
    cases hp : tP T x with
    | none =>
      rw [hp] at hx
      cases hx
    | some pp =>
      rw [hp] at hx
      have : pp = q := Option.some.inj hx
      exact ⟨x, this ▸ hp, rfl⟩
  | j + 1, x, hx => by
    rw [upn] at hx
    cases hp : tP T x with
    | none =>
      rw [hp] at hx
      cases hx
    | some pp =>
      rw [hp] at hx
      obtain ⟨c, h1, h2⟩ := upn_last j pp hx
      refine ⟨c, h1, ?_⟩
      rw [upn, hp]
      exact h2
theorem und_cases {T : tT} {q x : Nat} (h : und T q x) : x = q ∨ ∃ c, tP T c = some q ∧ und T c x := by
  obtain ⟨j, hj⟩ := h
  cases j with
  | zero => exact Or.inl (Option.some.inj hj)
  | succ j =>
    obtain ⟨c, h1, h2⟩ := upn_last j x hj
    exact Or.inr ⟨c, h1, j, h2⟩
/-- the tree of a net: parents and depths -/
theorem gTree_par {n : Nat} {E : List (Nat × Nat)} (hW : gW n E) {x pp : Nat} (hx : x < n) (h : tP (gTree n E) x = some pp) : pp < n ∧ tD (gTree n E) x = tD (gTree n E) pp + 1 := by
  rcases (gTree_C n E x (gTree_mem hx)).2 with h1 | ⟨p2, hp2, h1, _, _, _, _, h2⟩
  · rw [h1.1] at h
    cases h
  · rw [h1] at h
    cases h
    exact ⟨(gTree_W hW).2.1 _ hp2, h2⟩
theorem und_deep {n : Nat} {E : List (Nat × Nat)} (hW : gW n E) : ∀ (j x c : Nat), x < n → upn (gTree n E) j x = some c → c < n ∧ tD (gTree n E) x = tD (gTree n E) c + j
  | 0, x, c, hx, h => by
    have : x = c := Option.some.inj h
    rw [← this]
    exact ⟨hx, rfl⟩
  | j + 1, x, c, hx, h => by
    rw [upn] at h
    cases hp : tP (gTree n E) x with
    | none =>
      rw [hp] at h
      cases h
    | some pp =>
      rw [hp] at h
      obtain ⟨h1, h2⟩ := gTree_par hW hx hp
      obtain ⟨h3, h4⟩ := und_deep hW j pp c h1 h
      exact ⟨h3, by omega⟩
theorem und_not {n : Nat} {E : List (Nat × Nat)} (hW : gW n E) {q c : Nat} (hq : q < n) (hc : c < n) (h : tP (gTree n E) c = some q) : ¬ und (gTree n E) c q := by
  rintro ⟨j, hj⟩
  have h1 := (und_deep hW j q c hq hj).2
  have h2 := (gTree_par hW hc h).2
  omega
/-- every post stands at a root or below one -/
theorem und_root {n : Nat} {E : List (Nat × Nat)} (hW : gW n E) : ∀ (d x : Nat), x < n → tD (gTree n E) x = d → ∃ r, r < n ∧ tP (gTree n E) r = none ∧ und (gTree n E) r x := by
  intro d
  induction d with
  | zero =>
    intro x hx hd
    cases hp : tP (gTree n E) x with
    | none => exact ⟨x, hx, hp, und_self⟩
    | some pp =>
      have := (gTree_par hW hx hp).2
      omega
  | succ d ih =>
    intro x hx hd
    cases hp : tP (gTree n E) x with
    | none => exact ⟨x, hx, hp, und_self⟩
    | some pp =>
      obtain ⟨h1, h2⟩ := gTree_par hW hx hp
      obtain ⟨r, h3, h4, h5⟩ := ih pp h1 (by omega)
      exact ⟨r, h3, h4, und_up hp h5⟩
/-- numbered as it should be -/
def okN (M : zM) (n : Nat) (E : List (Nat × Nat)) (x : Nat) : Prop := M 8 x = nI (gEnt n E x) ∧ M 9 x = nI (gLev n E x)
def sameN (M M2 : zM) (x : Nat) : Prop := M2 8 x = M 8 x ∧ M2 9 x = M 9 x
/-- what the reference's tree must hold for this -/
def parY (M : zM) (n : Nat) (E : List (Nat × Nat)) : Prop := M 0 0 = nI n ∧ ∀ x, x < n → M 3 x = oI (tP (gTree n E) x)
theorem parY.kept {M M2 : zM} {n : Nat} {E : List (Nat × Nat)} (h : parY M n E) (hf : fr [8, 9] [] M M2) : parY M2 n E :=
  ⟨(hf 0 0 rfl rfl).trans h.1, fun x hx => (hf 3 x rfl rfl).trans (h.2 x hx)⟩
theorem range'_last (k : Nat) : List.range (k + 1) = List.range k ++ [k] := List.range_succ
