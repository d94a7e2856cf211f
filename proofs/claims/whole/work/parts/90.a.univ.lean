/-! PURE: universal small nets -/
def tb (h a b : Nat) : Bool := h.testBit (pix a b)
def dst (m k : Nat) (Q : List Nat) : Prop := Q.length = k ∧ (∀ x ∈ Q, x < m) ∧ Q.Nodup
def cn (h : Nat) : List Nat → Nat
  | [a, b] => (tb h a b).toNat
  | [a, b, c] => (tb h a b).toNat + (tb h a c).toNat + (tb h b c).toNat
  | _ => 0
def uniC (k m h : Nat) : Prop := ∀ c, c ≤ pj k → ∃ Q, dst m k Q ∧ cn h Q = c
theorem gd1 {m h g a : Nat} (ha : a < m) : gd m h g [a] := gd_add (P := []).mpr ⟨gd_nil m h g, ha, fun i s hi => (by cases hi)⟩
theorem px01 : pix 0 1 = 0 := by decide
theorem px02 : pix 0 2 = 1 := by decide
theorem px12 : pix 1 2 = 2 := by decide
theorem gd2 {m h g a b : Nat} : gd m h g [a, b] ↔ a < m ∧ b < m ∧ ¬ a = b ∧ tb h a b = g.testBit 0 := by
  rw [show [a, b] = [a] ++ [b] from rfl, gd_add]
  constructor
  · rintro ⟨h1, h2, h3⟩
    have this : ¬ a = b ∧ h.testBit (pix a b) = g.testBit (pix 0 1) := h3 0 a rfl
    rw [px01] at this
    exact ⟨h1.1 a List.mem_cons_self, h2, this.1, this.2⟩
  · rintro ⟨h1, h2, h3, h4⟩
    refine ⟨gd1 h1, h2, fun i s hi => ?_⟩
    cases i with
    | zero =>
      cases Option.some.inj hi
      show ¬ a = b ∧ h.testBit (pix a b) = g.testBit (pix 0 1)
      rw [px01]
      exact ⟨h3, h4⟩
    | succ i => cases hi
theorem gd3 {m h g a b c : Nat} : gd m h g [a, b, c] ↔ (a < m ∧ b < m ∧ c < m) ∧ (¬ a = b ∧ ¬ a = c ∧ ¬ b = c) ∧ tb h a b = g.testBit 0 ∧ tb h a c = g.testBit 1 ∧ tb h b c = g.testBit 2 := by
  rw [show [a, b, c] = [a, b] ++ [c] from rfl, gd_add, gd2]
  constructor
  · rintro ⟨⟨h1, h2, h3, h4⟩, h5, h6⟩
    have x1 : ¬ a = c ∧ h.testBit (pix a c) = g.testBit (pix 0 2) := h6 0 a rfl
    have x2 : ¬ b = c ∧ h.testBit (pix b c) = g.testBit (pix 1 2) := h6 1 b rfl
    rw [px02] at x1
    rw [px12] at x2
    exact ⟨⟨h1, h2, h5⟩, ⟨h3, x1.1, x2.1⟩, h4, x1.2, x2.2⟩
  · rintro ⟨⟨h1, h2, h5⟩, ⟨h3, h7, h8⟩, h4, h9, h10⟩
    refine ⟨⟨h1, h2, h3, h4⟩, h5, fun i s hi => ?_⟩
    cases i with
    | zero =>
      cases Option.some.inj hi
      show ¬ a = c ∧ h.testBit (pix a c) = g.testBit (pix 0 2)
      rw [px02]
      exact ⟨h7, h9⟩
    | succ i =>
      cases i with
      | zero =>
        cases Option.some.inj hi
        show ¬ b = c ∧ h.testBit (pix b c) = g.testBit (pix 1 2)
        rw [px12]
        exact ⟨h8, h10⟩
      | succ i => cases hi
theorem len1 {Q : List Nat} (h : Q.length = 1) : ∃ a, Q = [a] := by
  match Q, h with
  | [a], _ => exact ⟨a, rfl⟩
theorem len2 {Q : List Nat} (h : Q.length = 2) : ∃ a b, Q = [a, b] := by
  match Q, h with
  | [a, b], _ => exact ⟨a, b, rfl⟩
theorem len3 {Q : List Nat} (h : Q.length = 3) : ∃ a b c, Q = [a, b, c] := by
  match Q, h with
  | [a, b, c], _ => exact ⟨a, b, c, rfl⟩
theorem dst2 {m a b : Nat} : dst m 2 [a, b] ↔ a < m ∧ b < m ∧ ¬ a = b := by
  unfold dst
  simp
  constructor
  · rintro ⟨⟨h1, h2⟩, h3⟩
    exact ⟨h1, h2, h3⟩
  · rintro ⟨h1, h2, h3⟩
    exact ⟨⟨h1, h2⟩, h3⟩
theorem dst3 {m a b c : Nat} : dst m 3 [a, b, c] ↔ (a < m ∧ b < m ∧ c < m) ∧ ¬ a = b ∧ ¬ a = c ∧ ¬ b = c := by
  unfold dst
  simp
  intro _ _ _
  exact and_assoc
theorem tb_comm (h a b : Nat) : tb h a b = tb h b a := by
  unfold tb
  rw [pix_comm]
theorem perm6 : ∀ x y z p q r : Bool, x.toNat + y.toNat + z.toNat = p.toNat + q.toNat + r.toNat → (x = p ∧ y = q ∧ z = r) ∨ (y = p ∧ x = q ∧ z = r) ∨ (x = p ∧ z = q ∧ y = r) ∨ (z = p ∧ x = q ∧ y = r) ∨ (y = p ∧ z = q ∧ x = r) ∨ (z = p ∧ y = q ∧ x = r) := by decide
theorem low_bits : ∀ c, c ≤ 3 → ∃ g, g < 8 ∧ (g.testBit 0).toNat + (g.testBit 1).toNat + (g.testBit 2).toNat = c := by
  intro c hc
  obtain z | z | z | z : c = 0 ∨ c = 1 ∨ c = 2 ∨ c = 3 := by omega
  · exact ⟨0, by decide, by rw [z]; decide⟩
  · exact ⟨1, by decide, by rw [z]; decide⟩
  · exact ⟨3, by decide, by rw [z]; decide⟩
  · exact ⟨7, by decide, by rw [z]; decide⟩
theorem uni_iff {k m h : Nat} (hk1 : 1 ≤ k) (hk : k ≤ 3) (hm : 1 ≤ m) : (∀ g, g < 2 ^ pj k → hld m h k g) ↔ uniC k m h := by
  obtain z | z | z : k = 1 ∨ k = 2 ∨ k = 3 := by omega
  · subst z
    have h0 : pj 1 = 0 := by decide
    constructor
    · intro _ c hc
      refine ⟨[0], ⟨rfl, fun x hx => ?_, by simp⟩, ?_⟩
      · simp at hx
        omega
      · show 0 = c
        omega
    · intro _ g _
      exact ⟨[0], rfl, gd1 (by omega)⟩
  · subst z
    have h1 : pj 2 = 1 := by decide
    constructor
    · intro hh c hc
      obtain ⟨Q, q1, q2⟩ := hh c (by rw [h1]; omega)
      obtain ⟨a, b, rfl⟩ := len2 q1
      obtain ⟨x1, x2, x3, x4⟩ := gd2.mp q2
      refine ⟨[a, b], dst2.mpr ⟨x1, x2, x3⟩, ?_⟩
      show (tb h a b).toNat = c
      rw [x4]
      obtain z | z : c = 0 ∨ c = 1 := by omega
      · rw [z]; decide
      · rw [z]; decide
    · intro hh g hg
      rw [h1] at hg
      obtain ⟨Q, q1, q2⟩ := hh g (by omega)
      obtain ⟨a, b, rfl⟩ := len2 q1.1
      obtain ⟨x1, x2, x3⟩ := dst2.mp q1
      refine ⟨[a, b], rfl, gd2.mpr ⟨x1, x2, x3, ?_⟩⟩
      have q2 : (tb h a b).toNat = g := q2
      obtain z | z : g = 0 ∨ g = 1 := by omega
      · rw [z] at q2 ⊢
        cases ht : tb h a b
        · decide
        · rw [ht] at q2
          cases q2
      · rw [z] at q2 ⊢
        cases ht : tb h a b
        · rw [ht] at q2
          cases q2
        · decide
  · subst z
    have h1 : pj 3 = 3 := by decide
    constructor
    · intro hh c hc
      obtain ⟨g, g1, g2⟩ := low_bits c (by omega)
      obtain ⟨Q, q1, q2⟩ := hh g (by rw [h1]; omega)
      obtain ⟨a, b, c2, rfl⟩ := len3 q1
      obtain ⟨x1, x2, x3, x4, x5⟩ := gd3.mp q2
      refine ⟨[a, b, c2], dst3.mpr ⟨x1, x2⟩, ?_⟩
      show (tb h a b).toNat + (tb h a c2).toNat + (tb h b c2).toNat = c
      rw [x3, x4, x5, g2]
    · intro hh g hg
      rw [h1] at hg
      have hle : ∀ p q r : Bool, p.toNat + q.toNat + r.toNat ≤ 3 := by decide
      obtain ⟨Q, q1, q2⟩ := hh ((g.testBit 0).toNat + (g.testBit 1).toNat + (g.testBit 2).toNat) (by rw [h1]; exact hle _ _ _)
      obtain ⟨a, b, c, rfl⟩ := len3 q1.1
      obtain ⟨⟨x1, x2, x3⟩, x4, x5, x6⟩ := dst3.mp q1
      have e1 : ¬ b = a := fun z => x4 z.symm
      have e2 : ¬ c = a := fun z => x5 z.symm
      have e3 : ¬ c = b := fun z => x6 z.symm
      rcases perm6 _ _ _ _ _ _ q2 with ⟨p1, p2, p3⟩ | ⟨p1, p2, p3⟩ | ⟨p1, p2, p3⟩ | ⟨p1, p2, p3⟩ | ⟨p1, p2, p3⟩ | ⟨p1, p2, p3⟩
      · exact ⟨[a, b, c], rfl, gd3.mpr ⟨⟨x1, x2, x3⟩, ⟨x4, x5, x6⟩, p1, p2, p3⟩⟩
      · exact ⟨[a, c, b], rfl, gd3.mpr ⟨⟨x1, x3, x2⟩, ⟨x5, x4, e3⟩, p1, p2, by rw [tb_comm]; exact p3⟩⟩
      · exact ⟨[b, a, c], rfl, gd3.mpr ⟨⟨x2, x1, x3⟩, ⟨e1, x6, x5⟩, by rw [tb_comm]; exact p1, p2, p3⟩⟩
      · exact ⟨[b, c, a], rfl, gd3.mpr ⟨⟨x2, x3, x1⟩, ⟨x6, e1, e2⟩, p1, by rw [tb_comm]; exact p2, by rw [tb_comm]; exact p3⟩⟩
      · exact ⟨[c, a, b], rfl, gd3.mpr ⟨⟨x3, x1, x2⟩, ⟨e2, e3, x4⟩, by rw [tb_comm]; exact p1, by rw [tb_comm]; exact p2, p3⟩⟩
      · exact ⟨[c, b, a], rfl, gd3.mpr ⟨⟨x3, x2, x1⟩, ⟨e3, e2, e1⟩, by rw [tb_comm]; exact p1, by rw [tb_comm]; exact p2, by rw [tb_comm]; exact p3⟩⟩
/-! the class's groups -/
def pwA (mb j : Nat) (s0 : Nat) : Nat → Nat
  | 0 => s0
  | i + 1 => if (mb.testBit i && mb.testBit j) = true then pwA mb j s0 i ||| 2 ^ pix i j else pwA mb j s0 i
def pwB (mb : Nat) : Nat → Nat
  | 0 => 0
  | d + 1 => pwA mb (d + 1) (pwB mb d) (d + 1)
theorem pwA_lt {mb j s0 : Nat} (hj : j < 5) (h0 : s0 < 2 ^ 10) : ∀ i, i ≤ j → pwA mb j s0 i < 2 ^ 10
  | 0, _ => h0
  | i + 1, hi => by
    have := pwA_lt hj h0 i (by omega) (mb := mb)
    rw [pwA]
    split
    · exact or_lt this (pow_ltk (pix_lt (by omega) hj (by omega)))
    · exact this
theorem pwB_lt {mb : Nat} : ∀ d, d < 5 → pwB mb d < 2 ^ 10
  | 0, _ => by show 0 < 2 ^ 10; decide
  | d + 1, hd => pwA_lt hd (pwB_lt d (by omega)) _ (Nat.le_refl _)
theorem within_X {mb : Nat} (hmb : mb < 32) (M : zM) : fSmallNets_pairsWithin (nI mb) M = some (nI (pwB mb 4), M) := by
  rw [fSmallNets_pairsWithin]
  refine lpE (f := fun fu d (_ : Unit) M => fSmallNets_pairsWithin_4 fu (nI mb) (nI (pwB mb d)) (nI (d + 1)) M) (n := 4)
    (I := fun d _ M' => M' = M) (R := fun o => o = some (nI (pwB mb 4), M)) ?_ ?_ 0 FU () M (by omega) (fu_ok (by omega)) rfl
  · rintro fu - M' rfl
    rw [fSmallNets_pairsWithin_4, if_pos (by decide)]
  · rintro fu d - M' hd rfl
    right
    refine ⟨(), M', ?_, rfl⟩
    rw [fSmallNets_pairsWithin_4, if_neg (show ¬ (5 : Int32) ≤ nI (d + 1) from nI_ge (b := 5) (by omega) (by omega))]
    refine lpE (f := fun fu2 i (_ : Unit) M => fSmallNets_pairsWithin_11 (fSmallNets_pairsWithin_4 fu) fu2 (nI mb) (nI (pwA mb (d + 1) (pwB mb d) i)) (nI (d + 1)) (nI i) M) (n := d + 1)
      (I := fun i _ M2 => M2 = M') (R := fun o => o = fSmallNets_pairsWithin_4 fu (nI mb) (nI (pwB mb (d + 1))) (nI (d + 1 + 1)) M') ?_ ?_ 0 FU () M' (by omega) (fu_ok (by omega)) rfl
    · rintro fu2 - M2 rfl
      rw [fSmallNets_pairsWithin_11, if_pos (nI_le (by omega) (by omega)), nI_1]
      rfl
    · rintro fu2 i - M2 hi rfl
      right
      refine ⟨(), M2, ?_, rfl⟩
      have hb : ((zshr (nI mb) (nI i)) &&& (zshr (nI mb) (nI (d + 1)))) &&& 1 = bI (mb.testBit i && mb.testBit (d + 1)) := by
        rw [zshr_nI (by omega) (by omega), zshr_nI (by omega) (by omega), fa_and, nI_and1]
        have : (mb / 2 ^ i &&& mb / 2 ^ (d + 1)) % 2 = (mb.testBit i && mb.testBit (d + 1)).toNat := by
          rw [← Nat.shiftRight_eq_div_pow, ← Nat.shiftRight_eq_div_pow]
          have h0 : (mb >>> i &&& mb >>> (d + 1)).testBit 0 = (mb.testBit i && mb.testBit (d + 1)) := by
            rw [Nat.testBit_and, Nat.testBit_shiftRight, Nat.testBit_shiftRight, Nat.add_zero, Nat.add_zero]
          rw [← h0, Nat.testBit_zero]
          rcases Nat.mod_two_eq_zero_or_one (mb >>> i &&& mb >>> (d + 1)) with z | z <;> rw [z] <;> rfl
        rw [this, bI_nI]
      rw [fSmallNets_pairsWithin_11, if_neg (nI_ge hi (by omega)), hb, pairBit_X (by omega) (by omega) (by omega), cl_some, lt_eq, nI_1, fa_or, pwA]
      cases mb.testBit i && mb.testBit (d + 1) with
      | false =>
        rw [bI_f, if_pos (by decide), if_neg (by decide)]
      | true =>
        rw [bI_t, if_neg (by decide), if_pos rfl]
def gl (k : Nat) : Nat → List Nat
  | 0 => []
  | x + 1 => if popc x = k then gl k x ++ [pwB x 4] else gl k x
theorem gl_ext (k : Nat) : ∀ (d x : Nat), ∃ s, gl k (x + d) = gl k x ++ s
  | 0, x => ⟨[], by simp⟩
  | d + 1, x => by
    obtain ⟨s, hs⟩ := gl_ext k d x
    rw [show x + (d + 1) = x + d + 1 by omega, gl]
    split
    · exact ⟨s ++ [pwB (x + d) 4], by rw [hs, List.append_assoc]⟩
    · exact ⟨s, hs⟩
theorem gl_ten : ∀ k, k < 4 → ∀ m, m < 6 → (gl k (2 ^ m)).length ≤ 10 := by decide +kernel
theorem choose_X {M : zM} {k m : Nat} (hk : k ≤ 3) (hm : m ≤ 5) : ∃ M2, fSmallNets_chooseGroups (nI k) (nI m) M = some ((), M2) ∧ M2 53 2 = nI (gl k (2 ^ m)).length ∧ prX M2 55 (gl k (2 ^ m)) ∧ fq (fun c i => c = 55 ∨ (c = 53 ∧ i = 2)) M M2 := by
  have hpw : 2 ^ m ≤ 2 ^ 5 := Nat.pow_le_pow_right (by decide) hm
  have hten := gl_ten k (by omega) m (by omega)
  rw [fSmallNets_chooseGroups, wf_eq]
  refine lpE (f := fun fu x (_ : Unit) M => fSmallNets_chooseGroups_7 fu (nI k) (nI m) (nI x) M) (n := 2 ^ m)
    (I := fun x _ M' => M' 53 2 = nI (gl k x).length ∧ prX M' 55 (gl k x) ∧ fq (fun c i => c = 55 ∨ (c = 53 ∧ i = 2)) M M')
    (R := fun o => ∃ M2, o = some ((), M2) ∧ M2 53 2 = nI (gl k (2 ^ m)).length ∧ prX M2 55 (gl k (2 ^ m)) ∧ fq (fun c i => c = 55 ∨ (c = 53 ∧ i = 2)) M M2) ?_ ?_ 0 FU () _ (Nat.zero_le _) (fu_ok (by omega)) ⟨zs_eq, fun i s hi => (by cases hi), fq_zs fq_rf (by omega)⟩
  · rintro fu - M' ⟨h1, h2, h3⟩
    refine ⟨M', ?_, h1, h2, h3⟩
    rw [fSmallNets_chooseGroups_7, zshl_pow (by omega), if_pos (nI_le (by omega) (by omega))]
  · rintro fu x - M' hx ⟨h1, h2, h3⟩
    obtain ⟨s, hs⟩ := gl_ext k (2 ^ m - x) x
    rw [show x + (2 ^ m - x) = 2 ^ m by omega] at hs
    have hlen : (gl k (2 ^ m)).length = (gl k x).length + s.length := by rw [hs, List.length_append]
    rw [fSmallNets_chooseGroups_7, zshl_pow (by omega), if_neg (nI_ge hx (by omega)), h1]
    by_cases h10 : 10 ≤ (gl k x).length
    · left
      have hs0 : s = [] := List.eq_nil_of_length_eq_zero (by omega)
      rw [hs0, List.append_nil] at hs
      rw [if_pos (show (10 : Int32) ≤ nI (gl k x).length from nI_le (a := 10) h10 (by omega)), hs]
      exact ⟨M', rfl, h1, h2, h3⟩
    · right
      rw [if_neg (show ¬ (10 : Int32) ≤ nI (gl k x).length from nI_ge (b := 10) (by omega) (by omega)), bitCount_ok (by omega), cl_some, within_X (by omega), cl_some, h1, wr_ok (show (gl k x).length < 10 by omega) (by decide), wf_eq, zs_nc (by decide), h1, nI_1, nI_1]
      have hpc : popc x ≤ 32 := popc_lt
      by_cases hpk : popc x = k
      · rw [if_neg (by rw [hpk]; exact not_not_intro rfl)]
        refine ⟨(), _, rfl, ?_, fun i y hi => ?_, fq_zs (fq_zs h3 (by omega)) (by omega)⟩
        · rw [gl, if_pos hpk, zs_eq, List.length_append]
          rfl
        · rw [gl, if_pos hpk] at hi
          rw [zs_nc (by decide)]
          rcases app_get hi with ⟨a1, a2⟩ | ⟨a1, a2⟩
          · rw [zs_nk (by omega)]
            exact h2 i y a2
          · rw [a1, a2, zs_eq]
      · rw [if_pos (fun z => hpk ((nI_eq (by omega) (by omega)).mp z))]
        refine ⟨(), M', rfl, ?_, ?_, h3⟩
        · rw [gl, if_neg hpk]
          exact h1
        · rw [gl, if_neg hpk]
          exact h2
