/-! PURE: subsets of a set of lines, one after the other -/
def dq : Nat → Nat → Nat → Nat
  | 0, _, _ => 0
  | n + 1, s, x => if s % 2 = 1 then 2 * dq n (s / 2) (x / 2) + x % 2 else 2 * dq n (s / 2) x
def pcn : Nat → Nat → Nat
  | 0, _ => 0
  | n + 1, s => pcn n (s / 2) + s % 2
theorem and_two {a b i j : Nat} (hi : i < 2) (hj : j < 2) : (2 * a + i) &&& (2 * b + j) = 2 * (a &&& b) + (i &&& j) := by
  have hi1 : i < 2 ^ 1 := hi
  have hj1 : j < 2 ^ 1 := hj
  have hij : i &&& j < 2 ^ 1 := Nat.lt_of_le_of_lt Nat.and_le_left hi
  apply Nat.eq_of_testBit_eq
  intro l
  rw [Nat.testBit_and, show 2 * a = 2 ^ 1 * a from rfl, show 2 * b = 2 ^ 1 * b from rfl, show 2 * (a &&& b) = 2 ^ 1 * (a &&& b) from rfl, Nat.testBit_two_pow_mul_add _ hi1, Nat.testBit_two_pow_mul_add _ hj1, Nat.testBit_two_pow_mul_add _ hij]
  by_cases hl : l < 1
  · simp only [hl, if_true]
    rw [Nat.testBit_and]
  · simp only [hl, if_false]
    rw [Nat.testBit_and]
theorem dq_sub : ∀ (n s x : Nat), dq n s x &&& s = dq n s x
  | 0, s, x => by rw [dq, Nat.zero_and]
  | n + 1, s, x => by
    have ih1 := dq_sub n (s / 2) (x / 2)
    have ih2 := dq_sub n (s / 2) x
    rw [dq]
    by_cases hs : s % 2 = 1
    · rw [if_pos hs]
      have e : s = 2 * (s / 2) + 1 := by omega
      have h2 : x % 2 < 2 := Nat.mod_lt _ (by decide)
      conv => lhs; rw [e]
      rw [show (2 * (s / 2) + 1) / 2 = s / 2 by omega, and_two h2 (by decide), ih1]
      rcases Nat.mod_two_eq_zero_or_one x with z | z <;> rw [z] <;> rfl
    · rw [if_neg hs]
      have e : s = 2 * (s / 2) + 0 := by omega
      conv => lhs; rw [e]
      rw [show (2 * (s / 2) + 0) / 2 = s / 2 by omega]
      have := and_two (a := dq n (s / 2) x) (b := s / 2) (i := 0) (j := 0) (by decide) (by decide)
      rw [Nat.add_zero] at this
      rw [this, ih2]
      rfl
theorem dq_zero : ∀ (n s : Nat), dq n s 0 = 0
  | 0, _ => rfl
  | n + 1, s => by
    rw [dq, dq_zero n]
    split <;> rfl
theorem dq_next : ∀ (n s x : Nat), s < 2 ^ n → x + 1 < 2 ^ pcn n s → 1 ≤ dq n s (x + 1) ∧ (dq n s (x + 1) - 1) &&& s = dq n s x
  | 0, s, x, _, hx => by
    rw [pcn] at hx
    omega
  | n + 1, s, x, hs, hx => by
    rw [pcn] at hx
    rw [Nat.pow_succ] at hs
    rw [dq, dq]
    by_cases h1 : s % 2 = 1
    · rw [if_pos h1, if_pos h1]
      rw [h1, Nat.pow_succ] at hx
      have e : s = 2 * (s / 2) + 1 := by omega
      rcases Nat.mod_two_eq_zero_or_one x with z | z
      · have e1 : (x + 1) / 2 = x / 2 := by omega
        have e2 : (x + 1) % 2 = 1 := by omega
        rw [e1, e2, z]
        refine ⟨by omega, ?_⟩
        rw [show 2 * dq n (s / 2) (x / 2) + 1 - 1 = 2 * dq n (s / 2) (x / 2) + 0 by omega]
        conv => lhs; rw [e]
        rw [show (2 * (s / 2) + 1) / 2 = s / 2 by omega, and_two (by decide) (by decide), dq_sub]
        rfl
      · have e1 : (x + 1) / 2 = x / 2 + 1 := by omega
        have e2 : (x + 1) % 2 = 0 := by omega
        obtain ⟨i1, i2⟩ := dq_next n (s / 2) (x / 2) (by omega) (by omega)
        rw [e1, e2, z]
        refine ⟨by omega, ?_⟩
        rw [show 2 * dq n (s / 2) (x / 2 + 1) + 0 - 1 = 2 * (dq n (s / 2) (x / 2 + 1) - 1) + 1 by omega]
        conv => lhs; rw [e]
        rw [show (2 * (s / 2) + 1) / 2 = s / 2 by omega, and_two (by decide) (by decide), i2]
        rfl
    · rw [if_neg h1, if_neg h1]
      have h0 : s % 2 = 0 := by omega
      rw [h0, Nat.add_zero] at hx
      have e : s = 2 * (s / 2) + 0 := by omega
      obtain ⟨i1, i2⟩ := dq_next n (s / 2) x (by omega) hx
      refine ⟨by omega, ?_⟩
      rw [show 2 * dq n (s / 2) (x + 1) - 1 = 2 * (dq n (s / 2) (x + 1) - 1) + 1 by omega]
      conv => lhs; rw [e]
      rw [show (2 * (s / 2) + 0) / 2 = s / 2 by omega, and_two (by decide) (by decide), i2]
      rfl
theorem dq_full : ∀ (n s : Nat), s < 2 ^ n → dq n s (2 ^ pcn n s - 1) = s
  | 0, s, hs => by
    rw [dq]
    omega
  | n + 1, s, hs => by
    rw [Nat.pow_succ] at hs
    have ih := dq_full n (s / 2) (by omega)
    have hp := Nat.two_pow_pos (pcn n (s / 2))
    rw [dq, pcn]
    by_cases h1 : s % 2 = 1
    · rw [if_pos h1, h1, Nat.pow_succ]
      rw [show (2 ^ pcn n (s / 2) * 2 - 1) / 2 = 2 ^ pcn n (s / 2) - 1 by omega, show (2 ^ pcn n (s / 2) * 2 - 1) % 2 = 1 by omega, ih]
      omega
    · have h0 : s % 2 = 0 := by omega
      rw [if_neg h1, h0, Nat.add_zero, ih]
      omega
theorem dq_onto : ∀ (n s w : Nat), s < 2 ^ n → w &&& s = w → ∃ x, x < 2 ^ pcn n s ∧ dq n s x = w
  | 0, s, w, hs, hw => by
    have : s = 0 := by
      have : s < 1 := hs
      omega
    rw [this, Nat.and_zero] at hw
    exact ⟨0, Nat.two_pow_pos _, by rw [dq, hw]⟩
  | n + 1, s, w, hs, hw => by
    rw [Nat.pow_succ] at hs
    have ew : w = 2 * (w / 2) + w % 2 := by omega
    have es : s = 2 * (s / 2) + s % 2 := by omega
    have hw2 : w / 2 &&& s / 2 = w / 2 ∧ w % 2 &&& s % 2 = w % 2 := by
      have h3 : (2 * (w / 2) + w % 2) &&& (2 * (s / 2) + s % 2) = 2 * (w / 2) + w % 2 := by
        rw [← ew, ← es]
        exact hw
      rw [and_two (Nat.mod_lt _ (by decide)) (Nat.mod_lt _ (by decide))] at h3
      have h4 : w % 2 &&& s % 2 ≤ w % 2 := Nat.and_le_left
      have h5 := Nat.mod_lt w (show 0 < 2 by decide)
      omega
    obtain ⟨x, x1, x2⟩ := dq_onto n (s / 2) (w / 2) (by omega) hw2.1
    rw [pcn]
    by_cases h1 : s % 2 = 1
    · refine ⟨2 * x + w % 2, ?_, ?_⟩
      · rw [h1, Nat.pow_succ]
        omega
      · rw [dq, if_pos h1, show (2 * x + w % 2) / 2 = x by omega, show (2 * x + w % 2) % 2 = w % 2 by omega, x2]
        omega
    · have h0 : s % 2 = 0 := by omega
      have hz : w % 2 = 0 := by
        have := hw2.2
        rw [h0, Nat.and_zero] at this
        exact this.symm
      refine ⟨x, by rw [h0, Nat.add_zero]; exact x1, ?_⟩
      rw [dq, if_neg h1, x2]
      omega
theorem dq_lt (n s x : Nat) (hs : s < 2 ^ n) : dq n s x < 2 ^ n := by
  have := dq_sub n s x
  rw [← this, Nat.and_comm]
  exact and_lt hs
theorem ct_half (s l : Nat) : fb_ct (fun i => s.testBit i) (l + 1) = s % 2 + fb_ct (fun i => (s / 2).testBit i) l := by
  have h := fb_ct_split (fun i => s.testBit i) 1 l
  rw [Nat.add_comm 1 l] at h
  rw [h]
  have e1 : fb_ct (fun i => s.testBit i) 1 = s % 2 := by
    show 0 + (if s.testBit 0 = true then 1 else 0) = s % 2
    rw [Nat.testBit_zero]
    rcases Nat.mod_two_eq_zero_or_one s with z | z <;> rw [z] <;> rfl
  have e2 : (fun k => s.testBit (1 + k)) = fun k => (s / 2).testBit k := by
    funext k
    rw [Nat.add_comm 1 k, Nat.testBit_succ]
  rw [e1, e2]
theorem dq_bit : ∀ (n s x l : Nat), l < n → (dq n s x).testBit l = (s.testBit l && x.testBit (fb_ct (fun i => s.testBit i) l))
  | 0, s, x, l, hl => by omega
  | n + 1, s, x, 0, _ => by
    rw [dq, Nat.testBit_zero, Nat.testBit_zero, show fb_ct (fun i => s.testBit i) 0 = 0 from rfl, Nat.testBit_zero]
    by_cases h1 : s % 2 = 1
    · rw [if_pos h1, h1, show (2 * dq n (s / 2) (x / 2) + x % 2) % 2 = x % 2 by omega]
      simp
    · rw [if_neg h1, show 2 * dq n (s / 2) x % 2 = 0 by omega]
      simp [h1]
  | n + 1, s, x, l + 1, hl => by
    rw [dq, ct_half, Nat.testBit_succ, Nat.testBit_succ]
    by_cases h1 : s % 2 = 1
    · rw [if_pos h1, show (2 * dq n (s / 2) (x / 2) + x % 2) / 2 = dq n (s / 2) (x / 2) by omega, dq_bit n (s / 2) (x / 2) l (by omega), h1, Nat.add_comm 1, Nat.testBit_succ]
    · have h0 : s % 2 = 0 := by omega
      rw [if_neg h1, show 2 * dq n (s / 2) x / 2 = dq n (s / 2) x by omega, dq_bit n (s / 2) x l (by omega), h0, Nat.zero_add]
theorem pcn_ct : ∀ (n s : Nat), pcn n s = fb_ct (fun i => s.testBit i) n
  | 0, _ => rfl
  | n + 1, s => by
    rw [pcn, ct_half, pcn_ct n (s / 2)]
    omega
/-! a set of lines gives nothing, and is odd between -/
def xsL (L : Nat → Nat) (w : Nat) : Nat → Nat
  | 0 => 0
  | l + 1 => if w.testBit l = true then xsL L w l ^^^ L l else xsL L w l
def wkL (L : Nat → Nat) (len bt w : Nat) : Bool := decide (xsL L w len = 0) && decide (popc (w &&& bt) % 2 = 1)
theorem xsL_lt {L : Nat → Nat} {w len : Nat} (hL : ∀ l, l < len → L l < 2 ^ 30) : ∀ l, l ≤ len → xsL L w l < 2 ^ 30
  | 0, _ => by show 0 < 2 ^ 30; decide
  | l + 1, hl => by
    have := xsL_lt hL l (w := w) (by omega)
    rw [xsL]
    split
    · exact xor_lt this (hL l (by omega))
    · exact this
theorem wkL_0 {L : Nat → Nat} {len bt : Nat} : wkL L len bt 0 = false := by
  unfold wkL
  rw [Nat.zero_and, Bool.and_eq_false_iff]
  right
  decide
