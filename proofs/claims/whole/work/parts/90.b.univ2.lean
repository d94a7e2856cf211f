/-! PURE: universal small nets, to their end -/
def msk : List Nat → Nat
  | [a, b] => 2 ^ pix a b
  | [a, b, c] => 2 ^ pix a b ||| 2 ^ pix a c ||| 2 ^ pix b c
  | _ => 0
theorem popc_and1 {h w x : Nat} (hx : x < 32) (hw : w.testBit x = false) : popc (h &&& (w ||| 2 ^ x)) = popc (h &&& w) + (h.testBit x).toNat := by
  cases hb : h.testBit x with
  | false =>
    have : h &&& (w ||| 2 ^ x) = h &&& w := by
      apply Nat.eq_of_testBit_eq
      intro i
      rw [Nat.testBit_and, Nat.testBit_and, fb_bit_set]
      by_cases hi : i = x
      · simp [hi, hb]
      · simp [hi]
    rw [this]
    rfl
  | true =>
    have : h &&& (w ||| 2 ^ x) = (h &&& w) ||| 2 ^ x := by
      apply Nat.eq_of_testBit_eq
      intro i
      rw [Nat.testBit_and, fb_bit_set, fb_bit_set, Nat.testBit_and]
      by_cases hi : i = x
      · simp [hi, hb]
      · simp [hi]
    rw [this, popc_or hx (by rw [Nat.testBit_and, hw, Bool.and_false])]
    rfl
theorem pix_neB : ∀ a, a < 5 → ∀ b, b < 5 → ∀ c, c < 5 → (decide (a = b) || decide (a = c) || decide (b = c) || (!decide (pix a b = pix a c) && !decide (pix a b = pix b c) && !decide (pix a c = pix b c))) = true := by decide +kernel
theorem pix_ne (a : Nat) (ha : a < 5) (b : Nat) (hb : b < 5) (c : Nat) (hc : c < 5) (h1 : ¬ a = b) (h2 : ¬ a = c) (h3 : ¬ b = c) : ¬ pix a b = pix a c ∧ ¬ pix a b = pix b c ∧ ¬ pix a c = pix b c := by
  have := pix_neB a ha b hb c hc
  simp only [decide_eq_false h1, decide_eq_false h2, decide_eq_false h3, Bool.false_or, Bool.and_eq_true, Bool.not_eq_true', decide_eq_false_iff_not] at this
  exact ⟨this.1.1, this.1.2, this.2⟩
theorem cn_msk {k m h : Nat} {Q : List Nat} (hm : m ≤ 5) (hk1 : 1 ≤ k) (hk : k ≤ 3) (hQ : dst m k Q) : popc (h &&& msk Q) = cn h Q := by
  have p0 : popc (h &&& 0) = 0 := by
    rw [Nat.and_zero]
    decide
  obtain z | z | z : k = 1 ∨ k = 2 ∨ k = 3 := by omega
  · subst z
    obtain ⟨a, rfl⟩ := len1 hQ.1
    exact p0
  · subst z
    obtain ⟨a, b, rfl⟩ := len2 hQ.1
    obtain ⟨x1, x2, x3⟩ := dst2.mp hQ
    have hp := pix_lt (show a < 5 by omega) (show b < 5 by omega) x3
    show popc (h &&& 2 ^ pix a b) = (tb h a b).toNat
    have := popc_and1 (h := h) (w := 0) (x := pix a b) (by omega) (by simp)
    rw [Nat.zero_or, p0, Nat.zero_add] at this
    exact this
  · subst z
    obtain ⟨a, b, c, rfl⟩ := len3 hQ.1
    obtain ⟨⟨x1, x2, x3⟩, x4, x5, x6⟩ := dst3.mp hQ
    have h1 := pix_lt (show a < 5 by omega) (show b < 5 by omega) x4
    have h2 := pix_lt (show a < 5 by omega) (show c < 5 by omega) x5
    have h3 := pix_lt (show b < 5 by omega) (show c < 5 by omega) x6
    obtain ⟨n1, n2, n3⟩ := pix_ne a (by omega) b (by omega) c (by omega) x4 x5 x6
    show popc (h &&& (2 ^ pix a b ||| 2 ^ pix a c ||| 2 ^ pix b c)) = (tb h a b).toNat + (tb h a c).toNat + (tb h b c).toNat
    have e1 := popc_and1 (h := h) (w := 0) (x := pix a b) (by omega) (by simp)
    rw [Nat.zero_or, p0, Nat.zero_add] at e1
    rw [popc_and1 (by omega) (by rw [Nat.testBit_or, testBit_pow, testBit_pow, decide_eq_false n2, decide_eq_false n3]; rfl), popc_and1 (by omega) (by rw [testBit_pow, decide_eq_false n1]), e1]
    rfl
/-! groups are masks of distinct posts -/
def ck1 (m : Nat) : Bool := (gl 1 (2 ^ m)).all (fun G => decide (G = 0)) && (gl 1 (2 ^ m)).any (fun G => decide (G = 0))
def ck2 (m : Nat) : Bool := (gl 2 (2 ^ m)).all (fun G => (List.range m).any fun a => (List.range m).any fun b => decide (¬ a = b) && decide (G = 2 ^ pix a b)) && (List.range m).all (fun a => (List.range m).all fun b => decide (a = b) || (gl 2 (2 ^ m)).any (fun G => decide (G = 2 ^ pix a b)))
def ck3 (m : Nat) : Bool := (gl 3 (2 ^ m)).all (fun G => (List.range m).any fun a => (List.range m).any fun b => (List.range m).any fun c => decide (¬ a = b) && decide (¬ a = c) && decide (¬ b = c) && decide (G = 2 ^ pix a b ||| 2 ^ pix a c ||| 2 ^ pix b c)) && (List.range m).all (fun a => (List.range m).all fun b => (List.range m).all fun c => decide (a = b) || decide (a = c) || decide (b = c) || (gl 3 (2 ^ m)).any (fun G => decide (G = 2 ^ pix a b ||| 2 ^ pix a c ||| 2 ^ pix b c)))
theorem ck1_ok : ∀ m, m < 6 → (decide (m = 0) || ck1 m) = true := by decide +kernel
theorem ck2_ok : ∀ m, m < 6 → ck2 m = true := by decide +kernel
theorem ck3_ok : ∀ m, m < 6 → ck3 m = true := by decide +kernel
theorem gl_dst {k m : Nat} (hm1 : 1 ≤ m) (hm : m ≤ 5) (hk1 : 1 ≤ k) (hk : k ≤ 3) : (∀ G ∈ gl k (2 ^ m), ∃ Q, dst m k Q ∧ G = msk Q) ∧ ∀ Q, dst m k Q → msk Q ∈ gl k (2 ^ m) := by
  obtain z | z | z : k = 1 ∨ k = 2 ∨ k = 3 := by omega
  · subst z
    have hc := ck1_ok m (by omega)
    rw [decide_eq_false (by omega), Bool.false_or] at hc
    unfold ck1 at hc
    rw [Bool.and_eq_true, List.all_eq_true, List.any_eq_true] at hc
    refine ⟨fun G hG => ⟨[0], ⟨rfl, fun x hx => ?_, by simp⟩, of_decide_eq_true (hc.1 G hG)⟩, fun Q hQ => ?_⟩
    · simp at hx
      omega
    · obtain ⟨a, rfl⟩ := len1 hQ.1
      obtain ⟨G, g1, g2⟩ := hc.2
      rw [of_decide_eq_true g2] at g1
      exact g1
  · subst z
    have hc := ck2_ok m (by omega)
    unfold ck2 at hc
    simp only [Bool.and_eq_true, List.all_eq_true, List.any_eq_true, Bool.or_eq_true, decide_eq_true_eq, List.mem_range] at hc
    refine ⟨fun G hG => ?_, fun Q hQ => ?_⟩
    · obtain ⟨a, a1, b, b1, c1, c2⟩ := hc.1 G hG
      exact ⟨[a, b], dst2.mpr ⟨a1, b1, c1⟩, c2⟩
    · obtain ⟨a, b, rfl⟩ := len2 hQ.1
      obtain ⟨x1, x2, x3⟩ := dst2.mp hQ
      rcases hc.2 a x1 b x2 with z | ⟨G, g1, g2⟩
      · exact absurd z x3
      · rw [g2] at g1
        exact g1
  · subst z
    have hc := ck3_ok m (by omega)
    unfold ck3 at hc
    simp only [Bool.and_eq_true, List.all_eq_true, List.any_eq_true, Bool.or_eq_true, decide_eq_true_eq, List.mem_range] at hc
    refine ⟨fun G hG => ?_, fun Q hQ => ?_⟩
    · obtain ⟨a, a1, b, b1, c, c1, ⟨⟨d1, d2⟩, d3⟩, d4⟩ := hc.1 G hG
      exact ⟨[a, b, c], dst3.mpr ⟨⟨a1, b1, c1⟩, d1, d2, d3⟩, d4⟩
    · obtain ⟨a, b, c, rfl⟩ := len3 hQ.1
      obtain ⟨⟨x1, x2, x3⟩, x4, x5, x6⟩ := dst3.mp hQ
      rcases hc.2 a x1 b x2 c x3 with ((z | z) | z) | ⟨G, g1, g2⟩
      · exact absurd z x4
      · exact absurd z x5
      · exact absurd z x6
      · rw [g2] at g1
        exact g1
theorem cn_le {k m h : Nat} {Q : List Nat} (hk1 : 1 ≤ k) (hk : k ≤ 3) (hQ : dst m k Q) : cn h Q ≤ pj k := by
  have hle : ∀ p q r : Bool, p.toNat + q.toNat + r.toNat ≤ 3 := by decide
  have hle1 : ∀ p : Bool, p.toNat ≤ 1 := by decide
  obtain z | z | z : k = 1 ∨ k = 2 ∨ k = 3 := by omega
  · subst z
    obtain ⟨a, rfl⟩ := len1 hQ.1
    exact Nat.zero_le _
  · subst z
    obtain ⟨a, b, rfl⟩ := len2 hQ.1
    exact hle1 _
  · subst z
    obtain ⟨a, b, c, rfl⟩ := len3 hQ.1
    exact hle _ _ _
theorem pj3 : ∀ k, k ≤ 3 → pj k ≤ 3 := by decide
theorem isUniv_X {M : zM} {k m h : Nat} (hm1 : 1 ≤ m) (hm : m ≤ 5) (hk1 : 1 ≤ k) (hk : k ≤ 3) (hh : h < 2 ^ 10) (hM1 : M 53 2 = nI (gl k (2 ^ m)).length) (hM2 : prX M 55 (gl k (2 ^ m))) : ∃ b : Bool, fSmallNets_isUniversal (nI k) (nI h) M = some (bI b, M) ∧ (b = true ↔ uniC k m h) := by
  have hten := gl_ten k (by omega) m (by omega)
  obtain ⟨hg1, hg2⟩ := gl_dst hm1 hm hk1 hk
  have hpk := pj3 k hk
  have hcnt : ∀ G ∈ gl k (2 ^ m), popc (h &&& G) ≤ pj k := fun G hG => by
    obtain ⟨Q, q1, q2⟩ := hg1 G hG
    rw [q2, cn_msk hm hk1 hk q1]
    exact cn_le hk1 hk q1
  have hGlt : ∀ G : Nat, h &&& G < 2 ^ 32 := fun G => Nat.lt_trans (and_lt hh) (by decide)
  rw [fSmallNets_isUniversal]
  refine lpE (f := fun fu i (s : Nat) M => fSmallNets_isUniversal_5 fu (nI k) (nI h) (nI s) (nI i) M) (n := (gl k (2 ^ m)).length)
    (I := fun i s M' => M' = M ∧ s < 2 ^ (pj k + 1) ∧ ∀ c, s.testBit c = true ↔ ∃ (j G : Nat), j < i ∧ (gl k (2 ^ m))[j]? = some G ∧ popc (h &&& G) = c)
    (R := fun o => ∃ b : Bool, o = some (bI b, M) ∧ (b = true ↔ uniC k m h)) ?_ ?_ 0 FU 0 M (Nat.zero_le _) (fu_ok (by omega)) ⟨rfl, Nat.two_pow_pos _, fun c => by
      simp only [Nat.zero_testBit, Bool.false_eq_true, false_iff]
      rintro ⟨j, G, z, -⟩
      omega⟩
  · rintro fu s M' ⟨rfl, h1, h2⟩
    have hpw : 2 ^ (pj k + 1) ≤ 2 ^ 4 := Nat.pow_le_pow_right (by decide) (by omega)
    have key : s = 2 ^ (pj k + 1) - 1 ↔ uniC k m h := by
      constructor
      · intro e c hc
        have : s.testBit c = true := by
          rw [e, Nat.testBit_two_pow_sub_one]
          exact decide_eq_true (by omega)
        obtain ⟨j, G, -, g2, g3⟩ := (h2 c).mp this
        obtain ⟨Q, q1, q2⟩ := hg1 G (List.mem_of_getElem? g2)
        exact ⟨Q, q1, by rw [← cn_msk hm hk1 hk q1, ← q2]; exact g3⟩
      · intro hu
        apply Nat.eq_of_testBit_eq
        intro c
        rw [Nat.testBit_two_pow_sub_one, Bool.eq_iff_iff, h2 c, decide_eq_true_eq]
        constructor
        · rintro ⟨j, G, -, g2, g3⟩
          have := hcnt G (List.mem_of_getElem? g2)
          omega
        · intro hc
          obtain ⟨Q, q1, q2⟩ := hu c (by omega)
          obtain ⟨j, hj⟩ := List.mem_iff_getElem?.mp (hg2 Q q1)
          exact ⟨j, msk Q, (List.getElem?_eq_some_iff.mp hj).1, hj, by rw [cn_msk hm hk1 hk q1]; exact q2⟩
    rw [fSmallNets_isUniversal_5, hM1, if_pos (nI_le (Nat.le_refl _) (by omega)), pairs_X hk1 (by omega), cl_some, nI_1, zshl_pow (by omega), show nI (2 ^ (pj k + 1)) - 1 = nI (2 ^ (pj k + 1) - 1) from pk_sub (b := 1) (Nat.two_pow_pos _), zbl_0, zbl_1]
    by_cases hs : s = 2 ^ (pj k + 1) - 1
    · exact ⟨true, by rw [if_neg (by rw [hs]; exact not_not_intro rfl)]; rfl, fun _ => key.mp hs, fun _ => rfl⟩
    · exact ⟨false, by rw [if_pos (fun z => hs ((nI_eq (by omega) (by omega)).mp z))]; rfl, fun z => (by cases z), fun z => absurd (key.mpr z) hs⟩
  · rintro fu i s M' hi ⟨rfl, h1, h2⟩
    right
    obtain ⟨G, hG⟩ : ∃ G, (gl k (2 ^ m))[i]? = some G := ⟨_, List.getElem?_eq_getElem hi⟩
    have hc := hcnt G (List.mem_of_getElem? hG)
    refine ⟨s ||| 2 ^ popc (h &&& G), M', ?_, rfl, or_lt h1 (pow_ltk (by omega)), fun c => ?_⟩
    · rw [fSmallNets_isUniversal_5, hM1, if_neg (nI_ge hi (by omega)), rd_ok (show i < 10 by omega) (by decide), hM2 i G hG, fa_and, bitCount_ok (hGlt G), cl_some, lt_eq, zshl_pow (by omega), fa_or, nI_1]
    · rw [fb_bit_set, Bool.or_eq_true, h2 c, decide_eq_true_eq]
      constructor
      · rintro (⟨j, G2, g1, g2, g3⟩ | z)
        · exact ⟨j, G2, by omega, g2, g3⟩
        · exact ⟨i, G, by omega, hG, z.symm⟩
      · rintro ⟨j, G2, g1, g2, g3⟩
        by_cases hji : j = i
        · rw [hji, hG] at g2
          cases Option.some.inj g2
          exact Or.inr g3.symm
        · exact Or.inl ⟨j, G2, by omega, g2, g3⟩
noncomputable def uB (k m h : Nat) : Bool := @decide (uniC k m h) (Classical.propDecidable _)
theorem uB_iff {k m h : Nat} : uB k m h = true ↔ uniC k m h := by
  unfold uB
  exact @decide_eq_true_iff _ (Classical.propDecidable _)
theorem uB_eq {k m h : Nat} {b : Bool} (hb : b = true ↔ uniC k m h) : b = uB k m h := by
  rw [Bool.eq_iff_iff, hb, uB_iff]
def lst (u : Nat → Bool) : Nat → Option Nat
  | 0 => none
  | k + 1 => match lst u k with
    | some j => some j
    | none => if u k = true then some k else none
theorem lst_ext {u : Nat → Bool} {k j : Nat} (h : lst u k = some j) : ∀ d, lst u (k + d) = some j
  | 0 => h
  | d + 1 => by
    rw [show k + (d + 1) = k + d + 1 by omega, lst, lst_ext h d]
theorem lst_lt {u : Nat → Bool} : ∀ {k j : Nat}, lst u k = some j → j < k
  | 0, j, h => by cases h
  | k + 1, j, h => by
    rw [lst] at h
    cases hl : lst u k with
    | some i =>
      rw [hl] at h
      cases Option.some.inj h
      have := lst_lt hl
      omega
    | none =>
      rw [hl] at h
      simp only at h
      split at h
      · cases Option.some.inj h
        omega
      · cases h
/-! the reference -/
theorem isUniv_Y {M : zM} {k m h : Nat} (hm1 : 1 ≤ m) (hm : m ≤ 5) (hk1 : 1 ≤ k) (hk : k ≤ 3) (hh : h < 2 ^ 10) : ∃ M2, fMd_isUniversal (nI k) (nI m) (nI h) M = some (bI (uB k m h), M2) ∧ fq (fun c _ => c = 24) M M2 := by
  have hpk := pj3 k hk
  have hpw : 2 ^ pj k ≤ 2 ^ 3 := Nat.pow_le_pow_right (by decide) hpk
  rw [fMd_isUniversal]
  refine lpE (f := fun fu g (s : Bool) M => fMd_isUniversal_6 fu (nI k) (nI m) (nI h) (bI s) (nI g) M) (n := 2 ^ pj k)
    (I := fun g s M' => fq (fun c _ => c = 24) M M' ∧ (s = true → ∀ g2, g2 < g → hld m h k g2) ∧ (s = false → ∃ g2, g2 < 2 ^ pj k ∧ ¬ hld m h k g2))
    (R := fun o => ∃ M2, o = some (bI (uB k m h), M2) ∧ fq (fun c _ => c = 24) M M2) ?_ ?_ 0 FU true M (Nat.zero_le _) (fu_ok (by omega)) ⟨fq_rf, fun _ g2 z => by omega, fun z => (by cases z)⟩
  · rintro fu s M' ⟨h1, h2, h3⟩
    have e : s = uB k m h := uB_eq (by
      rw [← uni_iff hk1 hk hm1]
      constructor
      · intro z
        exact h2 z
      · intro z
        cases s with
        | true => rfl
        | false =>
          obtain ⟨g2, q1, q2⟩ := h3 rfl
          exact absurd (z g2 q1) q2)
    refine ⟨M', ?_, h1⟩
    rw [fMd_isUniversal_6, pairs_Y hk1 (by omega), cl_some, zshl_pow (by omega), if_pos (nI_le (Nat.le_refl _) (by omega)), ← e]
    cases s <;> simp [bI, zbl_0, zbl_1]
  · rintro fu g s M' hg ⟨h1, h2, h3⟩
    rw [fMd_isUniversal_6, pairs_Y hk1 (by omega), cl_some, zshl_pow (by omega), if_neg (nI_ge hg (by omega))]
    cases s with
    | false =>
      left
      obtain ⟨g2, q1, q2⟩ := h3 rfl
      have e : false = uB k m h := uB_eq (by
        rw [← uni_iff hk1 hk hm1]
        exact ⟨fun z => (by cases z), fun z => absurd (z g2 q1) q2⟩)
      rw [bI_f, if_pos rfl, zbl_0, ← e]
      exact ⟨M', rfl, h1⟩
    | true =>
      right
      obtain ⟨b, M2, c1, c2, c3⟩ := holdsOne_Y (M := M') hm1 hm hh (show g < 2 ^ 10 by omega) (show k ≤ 5 by omega)
      rw [bI_t, if_neg (by decide), c1, cl_some, nI_1]
      refine ⟨b, M2, rfl, fq_tr h1 c3, fun z g2 hg2 => ?_, fun z => ⟨g, hg, fun y => ?_⟩⟩
      · by_cases hgg : g2 = g
        · rw [hgg]
          exact c2.mp z
        · exact h2 rfl g2 (by omega)
      · rw [c2.mpr y] at z
        cases z
theorem st_universal (a0 a1 a2 : Int32) : zStep Rl (fun M => fNN_universal a0 a1 a2 M) (fun M => fMd_universal a0 a1 a2 M) := by
  rintro Mx My t ht ⟨n, E, B, tx, an, pl, c, h⟩
  have hC := h.2.2.2.2.1.2.1
  have hey3 : ∀ (v : Int32) (M : zM), fMd_in v.toInt64 1 3 M = some (bI (decide (1 ≤ v) && decide (v ≤ nI 3)), M) := fun v M => rngY (N := 3) rfl M
  have hey : ∀ (v : Int32) (M : zM), fMd_in v.toInt64 1 5 M = some (bI (decide (1 ≤ v) && decide (v ≤ nI 5)), M) := fun v M => rngY (N := 5) rfl M
  have hin2 : ∀ (v : Int32) (M : zM), fMd_in v.toInt64 0 1 M = some (bI (zin v 2), M) := fun v M => by
    have := in_size (v := v) (k := 2) (by decide) M
    exact this
  rcases rng5 a0 (N := 3) (by decide) with ⟨k, k1, k2, rfl⟩ | hb
  · rcases rng5 a1 (N := 5) (by decide) with ⟨m, m1, m2, rfl⟩ | hb
    · have hpm := pj_le10 m m2
      have hpw : 2 ^ pj m ≤ 2 ^ 10 := Nat.pow_le_pow_right (by decide) hpm
      have ex : fNN_universal (nI k) (nI m) a2 Mx = if a2 < 0 then some (-1002, Mx) else if a2 ≤ 1 then (if ¬ a2 = 0 then (cl (fSmallNets_leastUniversal (nI k) (nI m) Mx) fun r2 M1 => some (r2, M1)) else (cl (fSmallNets_countUniversal (nI k) (nI m) Mx) fun r4 M3 => some (r4, M3))) else some (-1002, Mx) := by
        rw [fNN_universal, if_neg (show ¬ nI k < 1 from nI_nlt (b := 1) k1 (by omega)), if_neg (show ¬ (3 : Int32) < nI k from nI_nlt (a := 3) k2 (by omega)), if_neg (show ¬ nI m < 1 from nI_nlt (b := 1) m1 (by omega)), if_neg (show ¬ (5 : Int32) < nI m from nI_nlt (a := 5) m2 (by omega))]
      have ey : fMd_universal (nI k) (nI m) a2 My = if ¬ bI (zin a2 2) = 0 then fMd_universal_47 FU (nI k) (nI m) a2 0 (-1) 0 My else some (-1002, My) := by
        rw [fMd_universal, hey3, cl_some, rng_good k1 k2 (by decide), bI_t, if_neg (by decide), hey, cl_some, rng_good m1 m2 (by decide), bI_t, if_neg (by decide), hin2, cl_some]
      obtain ⟨M1, c1, c2, c3, c4⟩ := choose_X (M := Mx) k2 m2
      have f1 : fq zRd Mx M1 := fq_mono c4 (fun c k h => by omega)
      have hC1 : CX M1 n E := hC.fq c4 (fun c k _ _ => by omega) (by omega)
      have hU : ∀ hh, hh < 2 ^ pj m → fSmallNets_isUniversal (nI k) (nI hh) M1 = some (bI (uB k m hh), M1) := fun hh q => by
        obtain ⟨b, b1, b2⟩ := isUniv_X (M := M1) m1 m2 k1 k2 (show hh < 2 ^ 10 by omega) c2 c3
        rw [b1, uB_eq b2]
      have hY47 : ∀ w : Nat, w < 2 → ∃ M2, fMd_universal_47 FU (nI k) (nI m) (nI w) 0 (-1) 0 My = some (if w = 0 then nI (fb_ct (uB k m) (2 ^ pj m)) else oI (lst (uB k m) (2 ^ pj m)), M2) ∧ fq (fun c _ => c = 24) My M2 := fun w hw => by
        refine lpE (f := fun fu x (_ : Unit) M => fMd_universal_47 fu (nI k) (nI m) (nI w) (nI (fb_ct (uB k m) x)) (oI (lst (uB k m) x)) (nI x) M) (n := 2 ^ pj m)
          (I := fun x _ M' => fq (fun c _ => c = 24) My M')
          (R := fun o => ∃ M2, o = some (if w = 0 then nI (fb_ct (uB k m) (2 ^ pj m)) else oI (lst (uB k m) (2 ^ pj m)), M2) ∧ fq (fun c _ => c = 24) My M2) ?_ ?_ 0 FU () My (Nat.zero_le _) (fu_ok (by omega)) fq_rf
        · rintro fu - M' h1
          refine ⟨M', ?_, h1⟩
          rw [fMd_universal_47, pairs_Y m1 (by omega), cl_some, zshl_pow (by omega), if_pos (nI_le (Nat.le_refl _) (by omega))]
          by_cases hw0 : w = 0
          · rw [if_neg (by rw [hw0]; exact not_not_intro rfl), if_pos hw0]
          · rw [if_pos (show ¬ nI w = 0 from nI_ne0 (by omega) (by omega)), if_neg hw0]
        · rintro fu x - M' hx h1
          right
          obtain ⟨M2, d1, d2⟩ := isUniv_Y (M := M') m1 m2 k1 k2 (show x < 2 ^ 10 by omega)
          have hsm : smallO (lst (uB k m) x) := fun j hj => by have := lst_lt hj; omega
          refine ⟨(), M2, ?_, fq_tr h1 d2⟩
          rw [fMd_universal_47, pairs_Y m1 (by omega), cl_some, zshl_pow (by omega), if_neg (nI_ge hx (by omega)), d1, cl_some, fb_ct_succ, lst]
          cases hu : uB k m x with
          | false =>
            rw [bI_f, if_pos rfl, nI_1]
            cases hl : lst (uB k m) x <;> rfl
          | true =>
            rw [bI_t, if_neg (by decide), nI_1, nI_1]
            cases hl : lst (uB k m) x with
            | none =>
              rw [if_neg (show ¬ (0 : Int32) ≤ oI none by decide)]
              rfl
            | some j =>
              have := lst_lt hl
              rw [if_pos (show (0 : Int32) ≤ oI (some j) from nI_ge0 (by omega))]
              rfl
      rcases zin3_cases a2 (n := 2) (by decide) with ⟨w, hw, rfl, h2⟩ | h2
      · obtain ⟨M2, y1, y2⟩ := hY47 w hw
        rw [h2, bI_t, if_pos (by decide), y1] at ey
        rw [if_neg (nI_nlt0 (by omega)), if_pos (show nI w ≤ 1 from nI_le (b := 1) (by omega) (by omega))] at ex
        by_cases hw0 : w = 0
        · rw [if_neg (by rw [hw0]; exact not_not_intro rfl)] at ex
          rw [if_pos hw0] at ey
          have : fSmallNets_countUniversal (nI k) (nI m) Mx = some (nI (fb_ct (uB k m) (2 ^ pj m)), M1) := by
            rw [fSmallNets_countUniversal, c1, cl_some]
            refine lpE (f := fun fu x (_ : Unit) M => fSmallNets_countUniversal_11 fu (nI k) (nI m) (nI (fb_ct (uB k m) x)) (nI x) M) (n := 2 ^ pj m)
              (I := fun x _ M' => M' = M1) (R := fun o => o = some (nI (fb_ct (uB k m) (2 ^ pj m)), M1)) ?_ ?_ 0 FU () M1 (Nat.zero_le _) (fu_ok (by omega)) rfl
            · rintro fu - M' rfl
              rw [fSmallNets_countUniversal_11, pairs_X m1 (by omega), cl_some, zshl_pow (by omega), if_pos (nI_le (Nat.le_refl _) (by omega))]
            · rintro fu x - M' hx rfl
              right
              refine ⟨(), M', ?_, rfl⟩
              rw [fSmallNets_countUniversal_11, pairs_X m1 (by omega), cl_some, zshl_pow (by omega), if_neg (nI_ge hx (by omega)), hU x hx, cl_some, fb_ct_succ, lt_eq, lt_eq]
              cases uB k m x with
              | false =>
                rw [bI_f, if_pos rfl, show (0 : Int32) = nI 0 from rfl, nI_add, nI_1]
                rfl
              | true =>
                rw [bI_t, if_neg (by decide), nI_1, nI_1]
                rfl
          rw [this, cl_some] at ex
          exact ⟨_, M1, M2, ex, ey, Rl_rd h f1 hC1 (fq_mono y2 (fun c k h => by omega))⟩
        · rw [if_pos (show ¬ nI w = 0 from nI_ne0 (by omega) (by omega))] at ex
          rw [if_neg hw0] at ey
          have : fSmallNets_leastUniversal (nI k) (nI m) Mx = some (oI (lst (uB k m) (2 ^ pj m)), M1) := by
            rw [fSmallNets_leastUniversal, c1, cl_some]
            refine lpE (f := fun fu x (_ : Unit) M => fSmallNets_leastUniversal_8 fu (nI k) (nI m) (nI x) M) (n := 2 ^ pj m)
              (I := fun x _ M' => M' = M1 ∧ lst (uB k m) x = none) (R := fun o => o = some (oI (lst (uB k m) (2 ^ pj m)), M1)) ?_ ?_ 0 FU () M1 (Nat.zero_le _) (fu_ok (by omega)) ⟨rfl, rfl⟩
            · rintro fu - M' ⟨rfl, g1⟩
              rw [fSmallNets_leastUniversal_8, pairs_X m1 (by omega), cl_some, zshl_pow (by omega), if_pos (nI_le (Nat.le_refl _) (by omega)), g1]
              rfl
            · rintro fu x - M' hx ⟨rfl, g1⟩
              rw [fSmallNets_leastUniversal_8, pairs_X m1 (by omega), cl_some, zshl_pow (by omega), if_neg (nI_ge hx (by omega)), hU x hx, cl_some]
              cases hu : uB k m x with
              | false =>
                right
                rw [bI_f, if_pos rfl, nI_1]
                exact ⟨(), M', rfl, rfl, by rw [lst, g1]; simp [hu]⟩
              | true =>
                left
                rw [bI_t, if_neg (by decide)]
                have e1 : lst (uB k m) (x + 1) = some x := by
                  rw [lst, g1]
                  simp [hu]
                have e2 := lst_ext e1 (2 ^ pj m - (x + 1))
                rw [show x + 1 + (2 ^ pj m - (x + 1)) = 2 ^ pj m by omega] at e2
                rw [e2]
                rfl
          rw [this, cl_some] at ex
          exact ⟨_, M1, M2, ex, ey, Rl_rd h f1 hC1 (fq_mono y2 (fun c k h => by omega))⟩
      · refine ⟨-1002, Mx, My, ?_, ?_, Rl_same h⟩
        · show fNN_universal (nI k) (nI m) a2 Mx = _
          rw [ex]
          by_cases q1 : a2 < 0
          · rw [if_pos q1]
          · rw [if_neg q1, if_neg]
            intro z
            obtain ⟨j, hj, e⟩ := nI_of2 (M := 1) (n := 1) rfl q1 z
            rw [e, zin_nI (by omega) (by decide)] at h2
            cases h2
        · show fMd_universal (nI k) (nI m) a2 My = _
          rw [ey, h2, bI_f, if_neg (not_not_intro rfl)]
    · refine ⟨-1002, Mx, My, ?_, ?_, Rl_same h⟩
      · show fNN_universal (nI k) a1 a2 Mx = _
        rw [fNN_universal, if_neg (show ¬ nI k < 1 from nI_nlt (b := 1) k1 (by omega)), if_neg (show ¬ (3 : Int32) < nI k from nI_nlt (a := 3) k2 (by omega))]
        by_cases q1 : a1 < 1
        · rw [if_pos q1]
        · rw [if_neg q1, if_pos (show (5 : Int32) < a1 from hb.resolve_left q1)]
      · show fMd_universal (nI k) a1 a2 My = _
        rw [fMd_universal, hey3, cl_some, rng_good k1 k2 (by decide), bI_t, if_neg (by decide), hey, cl_some, rng_bad hb, bI_f, if_pos rfl]
  · refine ⟨-1002, Mx, My, ?_, ?_, Rl_same h⟩
    · show fNN_universal a0 a1 a2 Mx = _
      rw [fNN_universal]
      by_cases q1 : a0 < 1
      · rw [if_pos q1]
      · rw [if_neg q1, if_pos (show (3 : Int32) < a0 from hb.resolve_left q1)]
    · show fMd_universal a0 a1 a2 My = _
      rw [fMd_universal, hey3, cl_some, rng_bad hb, bI_f, if_pos rfl]
