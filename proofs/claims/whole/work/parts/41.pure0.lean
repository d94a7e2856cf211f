/-! PURE, 0: the words of the printed functions at small numbers -/
theorem zin_nI {j n : Nat} (h : j < n) (hn : n < 2 ^ 31) : zin (nI j) n = true := by
  simp [zin, nI_toInt (show j < 2 ^ 31 by omega)]
  omega
theorem rd_ok {α : Type} {M : zM} {c n j : Nat} {K : Int32 → Option α} (h : j < n) (hn : n < 2 ^ 31) : rd M c n (nI j) K = K (M c j) := by
  unfold rd
  rw [if_pos (zin_nI h hn), nI_clamp (by omega)]
theorem wr_ok {α : Type} {M : zM} {c n j : Nat} {x : Int32} {K : zM → Option α} (h : j < n) (hn : n < 2 ^ 31) : wr M c n (nI j) x K = K (zs M c j x) := by
  unfold wr
  rw [if_pos (zin_nI h hn), nI_clamp (by omega)]
theorem wf_eq {α : Type} {M : zM} {c k : Nat} {x : Int32} {K : zM → Option α} : wf M c k x K = K (zs M c k x) := rfl
theorem cl_some {ρ α : Type} {r : ρ} {M : zM} {K : ρ → zM → Option α} : cl (some (r, M)) K = K r M := rfl
theorem lt_eq {α : Type} {x : Int32} {K : Int32 → Option α} : lt x K = K x := rfl
theorem zbl_0 {ρ : Type} {K : Option ρ} : zbl 0 K = K := by simp [zbl]
theorem zbl_1 {ρ : Type} {K : Option ρ} : zbl 1 K = K := by simp [zbl]
theorem zbl_if {ρ : Type} {c : Prop} [Decidable c] {K : Option ρ} : zbl (if c then 1 else 0) K = K := by
  by_cases h : c <;> simp [zbl, h]
/-- a boolean as an int -/
def bI (b : Bool) : Int32 := if b then 1 else 0
theorem bI_eq0 {b : Bool} : bI b = 0 ↔ b = false := by cases b <;> decide
theorem bI_ne0 {b : Bool} : ¬ bI b = 0 ↔ b = true := by cases b <;> decide
theorem bI_eq1 {b : Bool} : bI b = 1 ↔ b = true := by cases b <;> decide
theorem bI_t : bI true = 1 := rfl
theorem bI_f : bI false = 0 := rfl
/-- what is kept: all but these cells and these places -/
def fr (cs : List Nat) (ps : List (Nat × Nat)) (M M2 : zM) : Prop := ∀ c k, cs.contains c = false → ps.contains (c, k) = false → M2 c k = M c k
theorem fr_rf {cs : List Nat} {ps : List (Nat × Nat)} {M : zM} : fr cs ps M M := fun _ _ _ _ => rfl
theorem fr_tr {cs : List Nat} {ps : List (Nat × Nat)} {M M2 M3 : zM} (h : fr cs ps M M2) (h2 : fr cs ps M2 M3) : fr cs ps M M3 := fun c k hc hp => (h2 c k hc hp).trans (h c k hc hp)
theorem fr_zs {cs : List Nat} {ps : List (Nat × Nat)} {M M2 : zM} {c k : Nat} {x : Int32} (h : fr cs ps M M2) (hc : cs.contains c = true) : fr cs ps M (zs M2 c k x) := by
  intro c1 k1 h1 h2
  rw [zs_at, if_neg]
  · exact h c1 k1 h1 h2
  · rintro ⟨rfl, rfl⟩
    rw [hc] at h1
    cases h1
theorem fr_zp {cs : List Nat} {ps : List (Nat × Nat)} {M M2 : zM} {c k : Nat} {x : Int32} (h : fr cs ps M M2) (hc : ps.contains (c, k) = true) : fr cs ps M (zs M2 c k x) := by
  intro c1 k1 h1 h2
  rw [zs_at, if_neg]
  · exact h c1 k1 h1 h2
  · rintro ⟨rfl, rfl⟩
    rw [hc] at h2
    cases h2
theorem fr_mono {cs cs2 : List Nat} {ps ps2 : List (Nat × Nat)} {M M2 : zM} (h : fr cs ps M M2) (h1 : ∀ c, cs2.contains c = false → cs.contains c = false) (h2 : ∀ q : Nat × Nat, cs2.contains q.1 = false → ps2.contains q = false → ps.contains q = false) : fr cs2 ps2 M M2 := fun c k hc hp => h c k (h1 c hc) (h2 (c, k) hc hp)
theorem fr_row {cs : List Nat} {M M2 : zM} (h : fr cs [] M M2) (c : Nat) (hc : cs.contains c = false) : M2 c = M c := funext fun k => h c k hc rfl
theorem zs_ne {M : zM} {c k c2 k2 : Nat} {x : Int32} (h : ¬ (c2 = c ∧ k2 = k)) : zs M c k x c2 k2 = M c2 k2 := if_neg h
theorem zs_eq {M : zM} {c k : Nat} {x : Int32} : zs M c k x c k = x := if_pos ⟨rfl, rfl⟩
theorem zs_nc {M : zM} {c k c2 k2 : Nat} {x : Int32} (h : ¬ c2 = c) : zs M c k x c2 k2 = M c2 k2 := if_neg (fun q => h q.1)
theorem zs_nk {M : zM} {c k k2 : Nat} {x : Int32} (h : ¬ k2 = k) : zs M c k x c k2 = M c k2 := if_neg (fun q => h q.2)
/-! numbers -/
theorem nI_m1 (n : Nat) (h : n < 2 ^ 31) : ¬ nI n = -1 := by
  intro e
  have := congrArg Int32.toInt e
  rw [nI_toInt h] at this
  have h2 : (-1 : Int32).toInt = -1 := by decide
  omega
theorem m1_lt0 : (-1 : Int32) < 0 := by decide
theorem nI_ge0 {n : Nat} (h : n < 2 ^ 31) : (0 : Int32) ≤ nI n := nI_pos' h
theorem nI_nlt0 {n : Nat} (h : n < 2 ^ 31) : ¬ nI n < 0 := nI_pos h
theorem zshl_pow {j : Nat} (h : j < 31) : zshl 1 (nI j) = nI (2 ^ j) := by
  unfold zshl
  have h1 := pk_shlN (n := 1) (nI j &&& 31) j (s_l j (by omega)) (by rw [Nat.one_mul]; exact Nat.pow_lt_pow_right (by decide) (by omega))
  rw [show (1 : Int32) = nI 1 from rfl, h1, Nat.one_mul]
theorem zshr_nI {n j : Nat} (h : n < 2 ^ 31) (hj : j < 32) : zshr (nI n) (nI j) = nI (n / 2 ^ j) := by
  unfold zshr
  exact pk_shrN h (nI j &&& 31) j (s_l j hj)
theorem nI_and1 (n : Nat) : nI n &&& 1 = nI (n % 2) := fa_mask n 1
theorem zbit {n j : Nat} (h : n < 2 ^ 31) (hj : j < 32) : zshr (nI n) (nI j) &&& 1 = bI (n.testBit j) := by
  rw [zshr_nI h hj, nI_and1]
  have hb : n.testBit j = decide (n / 2 ^ j % 2 = 1) := by
    rw [Nat.testBit_eq_decide_div_mod_eq]
  rcases Nat.mod_two_eq_zero_or_one (n / 2 ^ j) with h0 | h0
  · rw [h0, hb, h0]
    rfl
  · rw [h0, hb, h0]
    rfl
theorem bI_nI (b : Bool) : bI b = nI b.toNat := by cases b <;> rfl
theorem or_lt {a b k : Nat} (h1 : a < 2 ^ k) (h2 : b < 2 ^ k) : a ||| b < 2 ^ k := Nat.or_lt_two_pow h1 h2
theorem xor_lt {a b k : Nat} (h1 : a < 2 ^ k) (h2 : b < 2 ^ k) : a ^^^ b < 2 ^ k := Nat.xor_lt_two_pow h1 h2
theorem and_lt {a b k : Nat} (h1 : a < 2 ^ k) : a &&& b < 2 ^ k := Nat.lt_of_le_of_lt Nat.and_le_left h1
theorem pow_lt31 {j : Nat} (h : j < 31) : 2 ^ j < 2 ^ 31 := Nat.pow_lt_pow_right (by decide) h
theorem pow_ltk {j k : Nat} (h : j < k) : 2 ^ j < 2 ^ k := Nat.pow_lt_pow_right (by decide) h
theorem testBit_pow (i j : Nat) : (2 ^ i).testBit j = decide (i = j) := Nat.testBit_two_pow
theorem nI_clr (m b : Nat) : nI m &&& (nI (2 ^ b) ^^^ (-1)) = nI (m &&& (2 ^ b ^^^ (2 ^ 32 - 1))) := by
  rw [show (-1 : Int32) = nI (2 ^ 32 - 1) from by decide, fb_xorI, fa_and]
theorem clr_bit {m b j : Nat} (hm : m < 2 ^ 32) : (m &&& (2 ^ b ^^^ (2 ^ 32 - 1))).testBit j = (m.testBit j && !decide (b = j)) := by
  rw [Nat.testBit_and, Nat.testBit_xor, testBit_pow, Nat.testBit_two_pow_sub_one]
  by_cases hj : j < 32
  · simp [hj]
  · have : m.testBit j = false := Nat.testBit_lt_two_pow (Nat.lt_of_lt_of_le hm (Nat.pow_le_pow_right (by decide) (by omega)))
    simp [this]
theorem clr_lt {m b k : Nat} (h : m < 2 ^ k) : m &&& (2 ^ b ^^^ (2 ^ 32 - 1)) < 2 ^ k := and_lt h
