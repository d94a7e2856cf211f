/-! PURE: ways in the tree -/
section wayT
variable {n : Nat} {E : List (Nat × Nat)}
theorem gTree_node (hW : gW n E) {x : Nat} (hx : x < n) : (tP (gTree n E) x = none ∧ tA (gTree n E) x = 0 ∧ tL (gTree n E) x = none ∧ tR (gTree n E) x = x ∧ tD (gTree n E) x = 0) ∨ ∃ p, p < n ∧ tP (gTree n E) x = some p ∧ gA E p x = true ∧ tA (gTree n E) x = tA (gTree n E) p ||| 2 ^ gL E p x ∧ tL (gTree n E) x = some (gL E p x) ∧ tR (gTree n E) x = tR (gTree n E) p ∧ tD (gTree n E) x = tD (gTree n E) p + 1 := by
  rcases (gTree_C n E x (gTree_mem hx)).2 with h1 | ⟨p, hp, h1⟩
  · exact Or.inl h1
  · exact Or.inr ⟨p, (gTree_W hW).2.1 _ hp, h1⟩
theorem gL_get {a b : Nat} (h : gA E a b = true) : ∃ e, E[gL E a b]? = some e ∧ gS a b e = true := by
  unfold gL
  cases hf : E.findIdx? (gS a b) with
  | none =>
    rw [List.findIdx?_eq_none_iff] at hf
    obtain ⟨e, he, hs⟩ := List.any_eq_true.mp h
    rw [hf e he] at hs
    cases hs
  | some j =>
    obtain ⟨hj, h2, _⟩ := List.findIdx?_eq_some_iff_getElem.mp hf
    exact ⟨E[j], List.getElem?_eq_getElem hj, h2⟩
theorem und_lt (hW : gW n E) {y x : Nat} (hx : x < n) (h : und (gTree n E) y x) : y < n ∧ tD (gTree n E) y ≤ tD (gTree n E) x := by
  obtain ⟨j, hj⟩ := h
  have := und_deep hW j x y hx hj
  exact ⟨this.1, by omega⟩
theorem upn_fun {T : tT} {j x a b : Nat} (h1 : upn T j x = some a) (h2 : upn T j x = some b) : a = b := Option.some.inj (h1.symm.trans h2)
theorem und_same (hW : gW n E) {a b x : Nat} (hx : x < n) (h1 : und (gTree n E) a x) (h2 : und (gTree n E) b x) (hd : tD (gTree n E) a = tD (gTree n E) b) : a = b := by
  obtain ⟨i, hi⟩ := h1
  obtain ⟨j, hj⟩ := h2
  have e1 := und_deep hW i x a hx hi
  have e2 := und_deep hW j x b hx hj
  have : i = j := by omega
  rw [this] at hi
  exact upn_fun hi hj
/-- a line of the tree leads up from one post alone -/
theorem tL_one (hW : gW n E) {x y l : Nat} (hx : x < n) (hy : y < n) (h1 : tL (gTree n E) x = some l) (h2 : tL (gTree n E) y = some l) : x = y := by
  rcases gTree_node hW hx with h3 | ⟨p, hp, p1, p2, p3, p4, p5, p6⟩
  · rw [h3.2.2.1] at h1
    cases h1
  · rcases gTree_node hW hy with h4 | ⟨q, hq, q1, q2, q3, q4, q5, q6⟩
    · rw [h4.2.2.1] at h2
      cases h2
    · rw [p4] at h1
      rw [q4] at h2
      obtain ⟨e, e1, e2⟩ := gL_get p2
      obtain ⟨f, f1, f2⟩ := gL_get q2
      rw [Option.some.inj h1] at e1
      rw [Option.some.inj h2, e1] at f1
      cases Option.some.inj f1
      rcases gS_true e2 with ⟨u1, u2⟩ | ⟨u1, u2⟩
      · rcases gS_true f2 with ⟨v1, v2⟩ | ⟨v1, v2⟩
        · exact u2.symm.trans v2
        · have a1 : p = y := u1.symm.trans v1
          have a2 : x = q := u2.symm.trans v2
          rw [a1] at p6
          rw [← a2] at q6
          omega
      · rcases gS_true f2 with ⟨v1, v2⟩ | ⟨v1, v2⟩
        · have a1 : x = q := u1.symm.trans v1
          have a2 : p = y := u2.symm.trans v2
          rw [a2] at p6
          rw [← a1] at q6
          omega
        · exact u1.symm.trans v1
theorem way_bit (hW : gW n E) {l : Nat} : ∀ (d x : Nat), x < n → tD (gTree n E) x = d → ((tA (gTree n E) x).testBit l = true ↔ ∃ y, und (gTree n E) y x ∧ tL (gTree n E) y = some l) := by
  intro d
  induction d with
  | zero =>
    intro x hx hd
    rcases gTree_node hW hx with h3 | ⟨p, hp, p1, p2, p3, p4, p5, p6⟩
    · rw [h3.2.1]
      simp only [Nat.zero_testBit, Bool.false_eq_true, false_iff]
      rintro ⟨y, y1, y2⟩
      have := (und_lt hW hx y1)
      rcases und_cases y1 with z | ⟨c, c1, c2⟩
      · rw [← z, h3.2.2.1] at y2
        cases y2
      · obtain ⟨j, hj⟩ := c2
        have e := und_deep hW j x c hx hj
        have := (gTree_par hW e.1 c1).2
        omega
    · omega
  | succ d ih =>
    intro x hx hd
    rcases gTree_node hW hx with h3 | ⟨p, hp, p1, p2, p3, p4, p5, p6⟩
    · omega
    · rw [p3, Nat.testBit_or, testBit_pow, Bool.or_eq_true, ih p hp (by omega), decide_eq_true_eq]
      constructor
      · rintro (⟨y, y1, y2⟩ | z)
        · exact ⟨y, und_up p1 y1, y2⟩
        · exact ⟨x, und_self, by rw [p4, z]⟩
      · rintro ⟨y, ⟨j, hj⟩, y2⟩
        cases j with
        | zero =>
          have : x = y := Option.some.inj hj
          rw [← this, p4] at y2
          exact Or.inr (Option.some.inj y2)
        | succ j =>
          rw [upn, p1] at hj
          exact Or.inl ⟨y, ⟨j, hj⟩, y2⟩
theorem gL_lt (hW : gW n E) {a b : Nat} (h : gA E a b = true) : gL E a b < 30 := by
  have := (gX_adj h).2
  have := hW.2.1
  omega
theorem popc_or {m l : Nat} (hl : l < 32) (h : m.testBit l = false) : popc (m ||| 2 ^ l) = popc m + 1 := by
  unfold popc
  have e : (fun i => (m ||| 2 ^ l).testBit i) = fun i => if i = l then true else m.testBit i := by
    funext i
    rw [fb_bit_set]
    by_cases hi : i = l
    · simp [hi]
    · simp [hi]
  have h2 := fb_ct_upd (fun i => m.testBit i) true hl
  rw [e]
  simp only [h, Bool.false_eq_true, if_false, if_true] at h2
  omega
/-- the line above a post is on no way of a post that doesn't stand below -/
theorem way_not (hW : gW n E) {x p b : Nat} (hx : x < n) (hb : b < n) (hp : tP (gTree n E) x = some p) (h : ¬ und (gTree n E) x b) : (tA (gTree n E) b).testBit (gL E p x) = false := by
  rw [Bool.eq_false_iff]
  intro z
  obtain ⟨y, y1, y2⟩ := (way_bit hW _ b hb rfl).mp z
  rcases gTree_node hW hx with h3 | ⟨p', hp', p1, p2, p3, p4, p5, p6⟩
  · rw [h3.1] at hp
    cases hp
  · rw [p1] at hp
    cases hp
    have := tL_one hW (und_lt hW hb y1).1 hx y2 p4
    rw [this] at y1
    exact h y1
theorem way_in (hW : gW n E) {x p b : Nat} (hx : x < n) (hb : b < n) (hp : tP (gTree n E) x = some p) (h : und (gTree n E) x b) : (tA (gTree n E) b).testBit (gL E p x) = true := by
  rcases gTree_node hW hx with h3 | ⟨p', hp', p1, p2, p3, p4, p5, p6⟩
  · rw [h3.1] at hp
    cases hp
  · rw [p1] at hp
    cases hp
    exact (way_bit hW _ b hb rfl).mpr ⟨x, h, p4⟩
theorem way_up (hW : gW n E) {x p : Nat} (hx : x < n) (hp : tP (gTree n E) x = some p) : p < n ∧ gA E p x = true ∧ tA (gTree n E) x = tA (gTree n E) p ||| 2 ^ gL E p x ∧ (tA (gTree n E) p).testBit (gL E p x) = false ∧ tD (gTree n E) x = tD (gTree n E) p + 1 ∧ tR (gTree n E) x = tR (gTree n E) p := by
  rcases gTree_node hW hx with h3 | ⟨p', hp', p1, p2, p3, p4, p5, p6⟩
  · rw [h3.1] at hp
    cases hp
  · rw [p1] at hp
    cases hp
    exact ⟨hp', p2, p3, way_not hW hx hp' p1 (und_not hW hp' hx p1), p6, p5⟩
theorem tA_lt (hW : gW n E) (x : Nat) : tA (gTree n E) x < 2 ^ 30 := (gTree_W hW).2.2.1 x
theorem deep_pop (hW : gW n E) : ∀ (d x : Nat), x < n → tD (gTree n E) x = d → popc (tA (gTree n E) x) = d := by
  intro d
  induction d with
  | zero =>
    intro x hx hd
    rcases gTree_node hW hx with h3 | ⟨p, hp, p1, p2, p3, p4, p5, p6⟩
    · rw [h3.2.1]
      rfl
    · omega
  | succ d ih =>
    intro x hx hd
    cases hp : tP (gTree n E) x with
    | none =>
      rcases gTree_node hW hx with h3 | ⟨p, hp2, p1, p2, p3, p4, p5, p6⟩
      · omega
      · rw [hp] at p1
        cases p1
    | some p =>
      obtain ⟨a1, a2, a3, a4, a5, -⟩ := way_up hW hx hp
      rw [a3, popc_or (by have := gL_lt hW a2; omega) a4, ih p a1 (by omega)]
/-! roots -/
theorem root_und (hW : gW n E) : ∀ (d x : Nat), x < n → tD (gTree n E) x = d → und (gTree n E) (tR (gTree n E) x) x := by
  intro d
  induction d with
  | zero =>
    intro x hx hd
    rcases gTree_node hW hx with h3 | ⟨p, hp, p1, p2, p3, p4, p5, p6⟩
    · rw [h3.2.2.2.1]
      exact und_self
    · omega
  | succ d ih =>
    intro x hx hd
    rcases gTree_node hW hx with h3 | ⟨p, hp, p1, p2, p3, p4, p5, p6⟩
    · omega
    · rw [p5]
      exact und_up p1 (ih p hp (by omega))
/-! a step of a parcel -/
theorem xor_or {a b l : Nat} (h1 : a.testBit l = false) (h2 : b.testBit l = false) : (a ||| 2 ^ l) ^^^ b = (a ^^^ b) ||| 2 ^ l := by
  apply Nat.eq_of_testBit_eq
  intro i
  rw [Nat.testBit_xor, fb_bit_set, fb_bit_set, Nat.testBit_xor]
  by_cases hi : i = l
  · simp [hi, h1, h2]
  · simp [hi]
theorem xor_or2 {a b l : Nat} (h1 : a.testBit l = false) (h2 : b.testBit l = true) : a ^^^ b = ((a ||| 2 ^ l) ^^^ b) ||| 2 ^ l := by
  apply Nat.eq_of_testBit_eq
  intro i
  rw [Nat.testBit_xor, fb_bit_set, Nat.testBit_xor, fb_bit_set]
  by_cases hi : i = l
  · simp [hi, h1, h2]
  · simp [hi]
theorem step_up (hW : gW n E) {a p b : Nat} (ha : a < n) (hb : b < n) (hp : tP (gTree n E) a = some p) (h : ¬ und (gTree n E) a b) : popc (tA (gTree n E) a ^^^ tA (gTree n E) b) = popc (tA (gTree n E) p ^^^ tA (gTree n E) b) + 1 := by
  obtain ⟨a1, a2, a3, a4, -⟩ := way_up hW ha hp
  have h1 := way_not hW ha hb hp h
  rw [a3, xor_or a4 h1, popc_or (by have := gL_lt hW a2; omega) (by rw [Nat.testBit_xor, a4, h1]; rfl)]
theorem step_down (hW : gW n E) {a ch b : Nat} (hc : ch < n) (hb : b < n) (hp : tP (gTree n E) ch = some a) (h : und (gTree n E) ch b) : popc (tA (gTree n E) a ^^^ tA (gTree n E) b) = popc (tA (gTree n E) ch ^^^ tA (gTree n E) b) + 1 := by
  obtain ⟨a1, a2, a3, a4, -⟩ := way_up hW hc hp
  have h1 := way_in hW hc hb hp h
  rw [a3, xor_or2 a4 h1, popc_or (by have := gL_lt hW a2; omega) (by rw [Nat.testBit_xor, fb_bit_set, a4, h1]; simp)]
/-! spans -/
theorem sS_mono {T : tT} {w : Nat → Nat} {o : Option Nat} {a b : Nat} (h : a ≤ b) : sS T w o (List.range a) ≤ sS T w o (List.range b) := by
  induction b with
  | zero =>
    have : a = 0 := by omega
    rw [this]
    exact Nat.le_refl _
  | succ b ih =>
    by_cases hab : a = b + 1
    · rw [hab]
      exact Nat.le_refl _
    · have := ih (by omega)
      by_cases hb : tP T b = o
      · rw [sS_r1 hb]
        omega
      · rw [sS_r0 hb]
        exact this
theorem sS_part {T : tT} {w : Nat → Nat} {o : Option Nat} {a b : Nat} (h : a < b) (ha : tP T a = o) : sS T w o (List.range a) + w a ≤ sS T w o (List.range b) := by
  have := sS_mono (T := T) (w := w) (o := o) (show a + 1 ≤ b by omega)
  rw [sS_r1 ha] at this
  exact this
theorem span_kid (hW : gW n E) {x p : Nat} (hx : x < n) (hp : tP (gTree n E) x = some p) : gEnt n E p < gEnt n E x ∧ gLev n E x ≤ gLev n E p := by
  have hpn := (gTree_par hW hx hp).1
  have e1 := gEnt_kid hW hx hp
  have e2 := gLev_eq hW hx
  have e3 := gLev_eq hW hpn
  have e4 := gWt_eq hW p
  have e5 := sS_part (T := gTree n E) (w := gWt n E) hx hp
  omega
theorem span_in (hW : gW n E) : ∀ (j x a : Nat), x < n → upn (gTree n E) j x = some a → gEnt n E a ≤ gEnt n E x ∧ gEnt n E x ≤ gLev n E a := by
  intro j
  induction j with
  | zero =>
    intro x a hx h
    have : x = a := Option.some.inj h
    rw [← this]
    have e1 := gLev_eq hW hx
    have e2 := gWt_eq hW x
    omega
  | succ j ih =>
    intro x a hx h
    obtain ⟨c, c1, c2⟩ := upn_last j x h
    have h1 := ih x c hx c2
    have hc := (und_deep hW j x c hx c2).1
    have h2 := span_kid hW hc c1
    omega
theorem span_sib (hW : gW n E) {x y v : Nat} (hx : x < n) (hy : y < n) (hp : tP (gTree n E) x = tP (gTree n E) y) (h1 : gEnt n E x ≤ v ∧ v ≤ gLev n E x) (h2 : gEnt n E y ≤ v ∧ v ≤ gLev n E y) : x = y := by
  have lx := gLev_eq hW hx
  have ly := gLev_eq hW hy
  cases ho : tP (gTree n E) x with
  | none =>
    have ho2 := ho
    rw [hp] at ho2
    have ex := gEnt_root hW hx ho
    have ey := gEnt_root hW hy ho2
    rcases Nat.lt_trichotomy x y with h | h | h
    · have := sS_part (T := gTree n E) (w := gWt n E) h ho
      omega
    · exact h
    · have := sS_part (T := gTree n E) (w := gWt n E) h ho2
      omega
  | some p =>
    have ho2 := ho
    rw [hp] at ho2
    have ex := gEnt_kid hW hx ho
    have ey := gEnt_kid hW hy ho2
    rcases Nat.lt_trichotomy x y with h | h | h
    · have := sS_part (T := gTree n E) (w := gWt n E) h ho
      omega
    · exact h
    · have := sS_part (T := gTree n E) (w := gWt n E) h ho2
      omega
theorem span_und (hW : gW n E) : ∀ (d a b : Nat), a < n → b < n → tD (gTree n E) a = d → gEnt n E a ≤ gEnt n E b → gEnt n E b ≤ gLev n E a → und (gTree n E) a b := by
  intro d
  induction d with
  | zero =>
    intro a b ha hb hd h1 h2
    have hno : tP (gTree n E) a = none := by
      cases hp : tP (gTree n E) a with
      | none => rfl
      | some p =>
        have := (gTree_par hW ha hp).2
        omega
    obtain ⟨r, r1, r2, ⟨j, hj⟩⟩ := und_root hW _ b hb rfl
    have := span_in hW j b r hb hj
    have := span_sib hW ha r1 (by rw [hno, r2]) ⟨h1, h2⟩ this
    rw [this]
    exact ⟨j, hj⟩
  | succ d ih =>
    intro a b ha hb hd h1 h2
    cases hp : tP (gTree n E) a with
    | none =>
      rcases gTree_node hW ha with h3 | ⟨p, hp2, p1, p2, p3, p4, p5, p6⟩
      · omega
      · rw [hp] at p1
        cases p1
    | some p =>
      obtain ⟨p1, p2⟩ := gTree_par hW ha hp
      have hk := span_kid hW ha hp
      rcases und_cases (ih p b p1 hb (by omega) (by omega) (by omega)) with z | ⟨c, c1, ⟨j, hj⟩⟩
      · rw [z] at h1
        omega
      · have hc := (und_deep hW j b c hb hj).1
        have h4 := span_in hW j b c hb hj
        have := span_sib hW ha hc (by rw [hp, c1]) ⟨h1, h2⟩ h4
        rw [this]
        exact ⟨j, hj⟩
theorem span_iff (hW : gW n E) {a b : Nat} (ha : a < n) (hb : b < n) : (gEnt n E a ≤ gEnt n E b ∧ gEnt n E b ≤ gLev n E a) ↔ und (gTree n E) a b :=
  ⟨fun h => span_und hW _ a b ha hb rfl h.1 h.2, fun ⟨j, hj⟩ => span_in hW j b a hb hj⟩
end wayT
