/-! PURE: distance by two names -/
def flat : List (Nat × Nat) → List Nat
  | [] => []
  | e :: l => e.1 :: e.2 :: flat l
theorem flat_len : ∀ l : List (Nat × Nat), (flat l).length = 2 * l.length
  | [] => rfl
  | e :: l => by
    rw [flat, List.length_cons, List.length_cons, flat_len l, List.length_cons]
    omega
theorem flat_get : ∀ {l : List (Nat × Nat)} {i : Nat} {e : Nat × Nat}, l[i]? = some e → (flat l)[2 * i]? = some e.1 ∧ (flat l)[2 * i + 1]? = some e.2
  | [], i, e, h => by cases h
  | f :: l, 0, e, h => by
    cases Option.some.inj h
    exact ⟨rfl, rfl⟩
  | f :: l, i + 1, e, h => by
    rw [List.getElem?_cons_succ] at h
    have := flat_get h
    rw [flat, show 2 * (i + 1) = 2 * i + 1 + 1 by omega, List.getElem?_cons_succ, List.getElem?_cons_succ, List.getElem?_cons_succ, List.getElem?_cons_succ]
    exact this
theorem flat_app : ∀ (l s : List (Nat × Nat)), flat (l ++ s) = flat l ++ flat s
  | [], s => rfl
  | e :: l, s => by
    rw [List.cons_append, flat, flat, flat_app l s]
    rfl
def isF (P : Nat → Prop) (o : Option Nat) : Prop := match o with
  | none => ∀ m, ¬ P m
  | some m => P m ∧ ∀ k, P k → m ≤ k
theorem isF_one {P : Nat → Prop} {o o2 : Option Nat} (h : isF P o) (h2 : isF P o2) : o = o2 := by
  cases o with
  | none =>
    cases o2 with
    | none => rfl
    | some m => exact absurd h2.1 (h m)
  | some m =>
    cases o2 with
    | none => exact absurd h.1 (h2 m)
    | some k =>
      have := h.2 k h2.1
      have := h2.2 m h.1
      congr 1
      omega
theorem isF_cong {P Q : Nat → Prop} {o : Option Nat} (h : isF P o) (h2 : ∀ m, P m ↔ Q m) : isF Q o := by
  have : P = Q := funext fun m => propext (h2 m)
  rw [← this]
  exact h
def omin (o : Option Nat) (s : Nat) : Nat := match o with
  | none => s
  | some k => if s < k then s else k
theorem isF_add {P Q : Nat → Prop} {o : Option Nat} {s : Nat} (h : isF P o) (h2 : ∀ m, Q m ↔ P m ∨ m = s) : isF Q (some (omin o s)) := by
  cases o with
  | none =>
    refine ⟨(h2 s).mpr (Or.inr rfl), fun k hk => ?_⟩
    rcases (h2 k).mp hk with h3 | h3
    · exact absurd h3 (h k)
    · show s ≤ k
      omega
  | some j =>
    unfold omin
    by_cases hs : s < j
    · simp only [hs, if_true]
      refine ⟨(h2 s).mpr (Or.inr rfl), fun k hk => ?_⟩
      rcases (h2 k).mp hk with h3 | h3
      · have := h.2 k h3
        omega
      · omega
    · simp only [hs, if_false]
      refine ⟨(h2 j).mpr (Or.inl h.1), fun k hk => ?_⟩
      rcases (h2 k).mp hk with h3 | h3
      · exact h.2 k h3
      · omega
def prP (A B : List (Nat × Nat)) (x y : Nat) (m : Nat) : Prop := ∃ (i j : Nat) (ea eb : Nat × Nat), A[i]? = some ea ∧ B[j]? = some eb ∧ (i < x ∨ (i = x ∧ j < y)) ∧ ea.1 = eb.1 ∧ m = ea.2 + eb.2
def frP (A B : List (Nat × Nat)) (m : Nat) : Prop := ∃ ea eb : Nat × Nat, ea ∈ A ∧ eb ∈ B ∧ ea.1 = eb.1 ∧ m = ea.2 + eb.2
theorem frP_comm {A B : List (Nat × Nat)} {m : Nat} : frP A B m ↔ frP B A m := by
  constructor
  · rintro ⟨ea, eb, h1, h2, h3, h4⟩
    exact ⟨eb, ea, h2, h1, h3.symm, by omega⟩
  · rintro ⟨ea, eb, h1, h2, h3, h4⟩
    exact ⟨eb, ea, h2, h1, h3.symm, by omega⟩
theorem prP_end {A B : List (Nat × Nat)} {m : Nat} : prP A B A.length 0 m ↔ frP A B m := by
  constructor
  · rintro ⟨i, j, ea, eb, h1, h2, -, h4, h5⟩
    exact ⟨ea, eb, List.mem_of_getElem? h1, List.mem_of_getElem? h2, h4, h5⟩
  · rintro ⟨ea, eb, h1, h2, h4, h5⟩
    obtain ⟨i, hi⟩ := List.mem_iff_getElem?.mp h1
    obtain ⟨j, hj⟩ := List.mem_iff_getElem?.mp h2
    exact ⟨i, j, ea, eb, hi, hj, Or.inl (List.getElem?_eq_some_iff.mp hi).1, h4, h5⟩
theorem prP_row {A B : List (Nat × Nat)} {x m : Nat} : prP A B x B.length m ↔ prP A B (x + 1) 0 m := by
  constructor
  · rintro ⟨i, j, ea, eb, h1, h2, h3, h4, h5⟩
    exact ⟨i, j, ea, eb, h1, h2, by omega, h4, h5⟩
  · rintro ⟨i, j, ea, eb, h1, h2, h3, h4, h5⟩
    have := (List.getElem?_eq_some_iff.mp h2).1
    exact ⟨i, j, ea, eb, h1, h2, by omega, h4, h5⟩
theorem prP_step {A B : List (Nat × Nat)} {x y : Nat} {ea eb : Nat × Nat} (ha : A[x]? = some ea) (hb : B[y]? = some eb) (m : Nat) : prP A B x (y + 1) m ↔ prP A B x y m ∨ (ea.1 = eb.1 ∧ m = ea.2 + eb.2) := by
  constructor
  · rintro ⟨i, j, fa, fb, h1, h2, h3, h4, h5⟩
    by_cases hc : i = x ∧ j = y
    · obtain ⟨rfl, rfl⟩ := hc
      rw [ha] at h1
      rw [hb] at h2
      cases Option.some.inj h1
      cases Option.some.inj h2
      exact Or.inr ⟨h4, h5⟩
    · exact Or.inl ⟨i, j, fa, fb, h1, h2, by omega, h4, h5⟩
  · rintro (⟨i, j, fa, fb, h1, h2, h3, h4, h5⟩ | ⟨h4, h5⟩)
    · exact ⟨i, j, fa, fb, h1, h2, by omega, h4, h5⟩
    · exact ⟨x, y, ea, eb, ha, hb, by omega, h4, h5⟩
theorem prP_0 {A B : List (Nat × Nat)} {m : Nat} : ¬ prP A B 0 0 m := by
  rintro ⟨i, j, fa, fb, h1, h2, h3, h4, h5⟩
  omega
theorem number_ok {M : zM} {c0 w : Nat} {nm : Nat → List Nat} (h : NmX M c0 w nm) (hw : w ≤ 26) (hz : zln (c0 + 2) = 12 * w) {q j : Nat} (hq : q < 12) (hj : j < 2 ^ 31) : fNames_number c0 (nI q) (nI j) M = some (oI (nm q)[j]?, M) := by
  have hMq := h.2 q hq
  have hin : q * w + w ≤ 12 * w := by
    have : (q + 1) * w ≤ 12 * w := Nat.mul_le_mul_right w hq
    rw [Nat.add_mul, Nat.one_mul] at this
    exact this
  rw [fNames_number, if_pos (nI_m1 j hj), if_neg (nI_nlt0 hj), rd_ok hq (by decide), hMq.1]
  by_cases hjl : j < (nm q).length
  · obtain ⟨a, ha⟩ : ∃ a, (nm q)[j]? = some a := ⟨_, List.getElem?_eq_getElem hjl⟩
    rw [if_neg (nI_ge hjl (by omega)), h.1, nI_times, nI_add, rd_ok (show q * w + j < zln (c0 + 2) by omega) (by omega), hMq.2.2 j a ha, ha]
    rfl
  · rw [if_pos (nI_le (by omega) hj), List.getElem?_eq_none (by omega)]
    rfl
def okP (A : List (Nat × Nat)) : Prop := ∀ e ∈ A, e.1 < 1000 ∧ e.2 < 1000
theorem okP_get {A : List (Nat × Nat)} (h : okP A) {i : Nat} {e : Nat × Nat} (he : A[i]? = some e) : e.1 < 1000 ∧ e.2 < 1000 := h e (List.mem_of_getElem? he)
def smallO (o : Option Nat) : Prop := ∀ k, o = some k → k < 2000
theorem oI_lt0 {o : Option Nat} (h : smallO o) : oI o < 0 ↔ o = none := by
  cases o with
  | none => exact ⟨fun _ => rfl, fun _ => (by show (-1 : Int32) < 0; decide)⟩
  | some k => exact ⟨fun z => absurd z (nI_nlt0 (by have := h k rfl; omega)), fun z => by cases z⟩
theorem oI_m1 {o : Option Nat} (h : smallO o) : oI o = -1 ↔ o = none := by
  cases o with
  | none => exact ⟨fun _ => rfl, fun _ => rfl⟩
  | some k => exact ⟨fun z => absurd z (nI_m1 k (by have := h k rfl; omega)), fun z => by cases z⟩
theorem smallO_min {o : Option Nat} {s : Nat} (h : smallO o) (hs : s < 2000) : smallO (some (omin o s)) := by
  intro k hk
  cases Option.some.inj hk
  cases o with
  | none => exact hs
  | some j =>
    unfold omin
    have := h j rfl
    simp only
    split <;> omega
theorem distance_X2 {M : zM} {c0 a b : Nat} {A B : List (Nat × Nat)} (ea1 : M (c0 + 1) a = nI (2 * A.length)) (eb1 : M (c0 + 1) b = nI (2 * B.length)) (hla : 2 * A.length ≤ 24) (hlb : 2 * B.length ≤ 24) (numa : ∀ {j : Nat}, j < 100 → fNames_number c0 (nI a) (nI j) M = some (oI (flat A)[j]?, M)) (numb : ∀ {j : Nat}, j < 100 → fNames_number c0 (nI b) (nI j) M = some (oI (flat B)[j]?, M)) (ha : a < 12) (hb : b < 12) (hA : okP A) (hB : okP B) :
    ∃ o, fNames_distance c0 (nI a) (nI b) M = some (oI o, M) ∧ isF (frP A B) o ∧ smallO o := by
  rw [fNames_distance]
  refine lpE (f := fun fu k (s : Option Nat) M => fNames_distance_5 fu c0 (nI a) (nI b) (oI s) (nI (2 * k)) M) (n := A.length)
    (I := fun k s M' => M' = M ∧ isF (prP A B k 0) s ∧ smallO s)
    (R := fun o' => ∃ o, o' = some (oI o, M) ∧ isF (frP A B) o ∧ smallO o) ?_ ?_ 0 FU none M (by omega) (fu_ok (by omega)) ⟨rfl, fun m => prP_0, fun k hk => (by cases hk)⟩
  · rintro fu s M' ⟨rfl, h1, h2⟩
    refine ⟨s, ?_, isF_cong h1 (fun m => prP_end), h2⟩
    rw [fNames_distance_5, rd_ok ha (by decide), ea1, if_pos (nI_le (by omega) (by omega))]
  · rintro fu k s M' hk ⟨rfl, h1, h2⟩
    right
    obtain ⟨ea, hea⟩ : ∃ e, A[k]? = some e := ⟨_, List.getElem?_eq_getElem hk⟩
    have ga := flat_get hea
    have oa := okP_get hA hea
    have inner : ∃ s2, fNames_distance_19 (fNames_distance_5 fu) FU c0 (nI a) (nI b) (oI s) (nI (2 * k)) 0 M' = fNames_distance_5 fu c0 (nI a) (nI b) (oI s2) (nI (2 * (k + 1))) M' ∧ isF (prP A B (k + 1) 0) s2 ∧ smallO s2 := by
      refine lpE (f := fun fu2 j (s : Option Nat) M => fNames_distance_19 (fNames_distance_5 fu) fu2 c0 (nI a) (nI b) (oI s) (nI (2 * k)) (nI (2 * j)) M) (n := B.length)
        (I := fun j s M2 => M2 = M' ∧ isF (prP A B k j) s ∧ smallO s)
        (R := fun o' => ∃ s2, o' = fNames_distance_5 fu c0 (nI a) (nI b) (oI s2) (nI (2 * (k + 1))) M' ∧ isF (prP A B (k + 1) 0) s2 ∧ smallO s2) ?_ ?_ 0 FU s M' (by omega) (fu_ok (by omega)) ⟨rfl, h1, h2⟩
      · rintro fu2 s M2 ⟨rfl, h3, h4⟩
        refine ⟨s, ?_, isF_cong h3 (fun m => prP_row), h4⟩
        rw [fNames_distance_19, rd_ok hb (by decide), eb1, if_pos (nI_le (by omega) (by omega)), qlit2, nI_add]
        rfl
      · rintro fu2 j s M2 hj ⟨rfl, h3, h4⟩
        right
        obtain ⟨eb, heb⟩ : ∃ e, B[j]? = some e := ⟨_, List.getElem?_eq_getElem hj⟩
        have gb := flat_get heb
        have ob := okP_get hB heb
        rw [fNames_distance_19, rd_ok hb (by decide), eb1, if_neg (nI_ge (by omega) (by omega)), numa (by omega), cl_some, ga.1, numb (by omega), cl_some, gb.1, nI_1, numa (by omega), cl_some, ga.2, nI_1, numb (by omega), cl_some, gb.2, lt_eq, lt_eq, qlit2, nI_add, show 2 * j + 2 = 2 * (j + 1) by omega]
        show ∃ s2 M3, (if ¬ nI ea.1 = nI eb.1 then _ else _) = _ ∧ _
        by_cases he : ea.1 = eb.1
        · rw [if_neg (by rw [he]; exact not_not_intro rfl)]
          refine ⟨some (omin s (ea.2 + eb.2)), M2, ?_, rfl, isF_add h3 (fun m => by rw [prP_step hea heb]; simp [he]), smallO_min h4 (by omega)⟩
          show (if ¬ oI s = -1 then _ else _) = _
          have e1 : (oI (some ea.2) : Int32) + oI (some eb.2) = nI (ea.2 + eb.2) := nI_add _ _
          rw [e1]
          cases s with
          | none =>
            rw [if_neg (show ¬ ¬ oI none = -1 from not_not_intro rfl)]
            rfl
          | some k2 =>
            have hk2 := h4 k2 rfl
            rw [if_pos (show ¬ oI (some k2) = -1 from nI_m1 k2 (by omega))]
            congr 1
            show zmin (nI k2) (nI (ea.2 + eb.2)) = nI (if ea.2 + eb.2 < k2 then ea.2 + eb.2 else k2)
            unfold zmin
            by_cases hlt : ea.2 + eb.2 < k2
            · rw [if_pos (nI_lt hlt (by omega)), if_pos hlt]
            · rw [if_neg (nI_nlt (by omega) (by omega)), if_neg hlt]
        · rw [if_pos (fun z => he ((nI_eq (by omega) (by omega)).mp z))]
          exact ⟨s, M2, rfl, rfl, isF_cong h3 (fun m => by rw [prP_step hea heb]; simp [he]), h4⟩
    obtain ⟨s2, i1, i2, i3⟩ := inner
    refine ⟨s2, M', ?_, rfl, i2, i3⟩
    rw [fNames_distance_5, rd_ok ha (by decide), ea1, if_neg (nI_ge (by omega) (by omega)), i1]
theorem distance_X {M : zM} {c0 w : Nat} {ps : Nat → List (Nat × Nat)} (h : NmX M c0 w (fun q => flat (ps q))) (hw : w ≤ 24) (hz : zln (c0 + 2) = 12 * w) {a b : Nat} (ha : a < 12) (hb : b < 12) (hA : okP (ps a)) (hB : okP (ps b)) :
    ∃ o, fNames_distance c0 (nI a) (nI b) M = some (oI o, M) ∧ isF (frP (ps a) (ps b)) o ∧ smallO o := by
  have hla := (h.2 a ha).2.1
  have hlb := (h.2 b hb).2.1
  simp only [flat_len] at hla hlb
  exact distance_X2 (by rw [(h.2 a ha).1, flat_len]) (by rw [(h.2 b hb).1, flat_len]) (by omega) (by omega) (fun hj => number_ok h (by omega) hz ha (by omega)) (fun hj => number_ok h (by omega) hz hb (by omega)) ha hb hA hB
theorem farOf_Y2 {M : zM} {ps : Nat → List (Nat × Nat)} {a b : Nat} (h : ∀ q, (q = a ∨ q = b) → M 12 q = nI (flat (ps q)).length ∧ ∀ j x : Nat, (flat (ps q))[j]? = some x → M 13 (26 * q + j) = nI x) (hl : ∀ q, (q = a ∨ q = b) → (ps q).length ≤ 13) (ha : a < 12) (hb : b < 12) (hA : okP (ps a)) (hB : okP (ps b)) :
    ∃ o, fMd_farOf (nI a) (nI b) M = some (oI o, M) ∧ isF (frP (ps a) (ps b)) o ∧ smallO o := by
  have hla := hl a (Or.inl rfl)
  have hlb := hl b (Or.inr rfl)
  have num : ∀ {q j v : Nat}, (q = a ∨ q = b) → (flat (ps q))[j]? = some v → M 13 (26 * q + j) = nI v ∧ 26 * q + j < 312 := fun {q j v} hq hj => ⟨(h q hq).2 j v hj, by
    have := (List.getElem?_eq_some_iff.mp hj).1
    rw [flat_len] at this
    have := hl q hq
    omega⟩
  rw [fMd_farOf]
  refine lpE (f := fun fu k (s : Option Nat) M => fMd_farOf_5 fu (nI a) (nI b) (oI s) (nI (2 * k)) M) (n := (ps a).length)
    (I := fun k s M' => M' = M ∧ isF (prP (ps a) (ps b) k 0) s ∧ smallO s)
    (R := fun o' => ∃ o, o' = some (oI o, M) ∧ isF (frP (ps a) (ps b)) o ∧ smallO o) ?_ ?_ 0 FU none M (by omega) (fu_ok (by omega)) ⟨rfl, fun m => prP_0, fun k hk => (by cases hk)⟩
  · rintro fu s M' ⟨rfl, h1, h2⟩
    refine ⟨s, ?_, isF_cong h1 (fun m => prP_end), h2⟩
    rw [fMd_farOf_5, rd_ok ha (by decide), (h a (Or.inl rfl)).1, flat_len, nI_1, if_pos (nI_le (by omega) (by omega))]
  · rintro fu k s M' hk ⟨rfl, h1, h2⟩
    right
    obtain ⟨ea, hea⟩ : ∃ e, (ps a)[k]? = some e := ⟨_, List.getElem?_eq_getElem hk⟩
    have ga := flat_get hea
    have oa := okP_get hA hea
    have na1 := num (Or.inl rfl) ga.1
    have na2 := num (Or.inl rfl) ga.2
    have inner : ∃ s2, fMd_farOf_21 (fMd_farOf_5 fu) FU (nI a) (nI b) (oI s) (nI (2 * k)) 0 M' = fMd_farOf_5 fu (nI a) (nI b) (oI s2) (nI (2 * (k + 1))) M' ∧ isF (prP (ps a) (ps b) (k + 1) 0) s2 ∧ smallO s2 := by
      refine lpE (f := fun fu2 j (s : Option Nat) M => fMd_farOf_21 (fMd_farOf_5 fu) fu2 (nI a) (nI b) (oI s) (nI (2 * k)) (nI (2 * j)) M) (n := (ps b).length)
        (I := fun j s M2 => M2 = M' ∧ isF (prP (ps a) (ps b) k j) s ∧ smallO s)
        (R := fun o' => ∃ s2, o' = fMd_farOf_5 fu (nI a) (nI b) (oI s2) (nI (2 * (k + 1))) M' ∧ isF (prP (ps a) (ps b) (k + 1) 0) s2 ∧ smallO s2) ?_ ?_ 0 FU s M' (by omega) (fu_ok (by omega)) ⟨rfl, h1, h2⟩
      · rintro fu2 s M2 ⟨rfl, h3, h4⟩
        refine ⟨s, ?_, isF_cong h3 (fun m => prP_row), h4⟩
        rw [fMd_farOf_21, rd_ok hb (by decide), (h b (Or.inr rfl)).1, flat_len, nI_1, if_pos (nI_le (by omega) (by omega)), qlit2, nI_add]
        rfl
      · rintro fu2 j s M2 hj ⟨rfl, h3, h4⟩
        right
        obtain ⟨eb, heb⟩ : ∃ e, (ps b)[j]? = some e := ⟨_, List.getElem?_eq_getElem hj⟩
        have gb := flat_get heb
        have ob := okP_get hB heb
        have nb1 := num (Or.inr rfl) gb.1
        have nb2 := num (Or.inr rfl) gb.2
        rw [fMd_farOf_21, rd_ok hb (by decide), (h b (Or.inr rfl)).1, flat_len, nI_1, if_neg (nI_ge (by omega) (by omega)), qlit26, nI_times, nI_times, nI_add, nI_add, nI_1, nI_1,
          rd_ok (show 26 * a + 2 * k + 1 < 312 by omega) (by decide), rd_ok (show 26 * b + 2 * j + 1 < 312 by omega) (by decide), lt_eq, rd_ok (show 26 * a + 2 * k < 312 by omega) (by decide), rd_ok (show 26 * b + 2 * j < 312 by omega) (by decide), na1.1, nb1.1,
          show 26 * a + 2 * k + 1 = 26 * a + (2 * k + 1) by omega, show 26 * b + 2 * j + 1 = 26 * b + (2 * j + 1) by omega, na2.1, nb2.1, nI_add, qlit2, nI_add, show 2 * j + 2 = 2 * (j + 1) by omega]
        by_cases he : ea.1 = eb.1
        · rw [if_neg (by rw [he]; exact not_not_intro rfl)]
          refine ⟨some (omin s (ea.2 + eb.2)), M2, ?_, rfl, isF_add h3 (fun m => by rw [prP_step hea heb]; simp [he]), smallO_min h4 (by omega)⟩
          cases s with
          | none =>
            rw [if_pos (show oI none < 0 by decide)]
            rfl
          | some k2 =>
            have hk2 := h4 k2 rfl
            rw [if_neg (show ¬ oI (some k2) < 0 from nI_nlt0 (by omega))]
            show (if nI k2 ≤ nI (ea.2 + eb.2) then _ else _) = _
            unfold omin
            by_cases hlt : ea.2 + eb.2 < k2
            · rw [if_neg (nI_ge hlt (by omega))]
              simp only [hlt, if_true]
              rfl
            · rw [if_pos (nI_le (by omega) (by omega))]
              simp only [hlt, if_false]
        · rw [if_pos (fun z => he ((nI_eq (by omega) (by omega)).mp z))]
          exact ⟨s, M2, rfl, rfl, isF_cong h3 (fun m => by rw [prP_step hea heb]; simp [he]), h4⟩
    obtain ⟨s2, i1, i2, i3⟩ := inner
    refine ⟨s2, M', ?_, rfl, i2, i3⟩
    rw [fMd_farOf_5, rd_ok ha (by decide), (h a (Or.inl rfl)).1, flat_len, nI_1, if_neg (nI_ge (by omega) (by omega)), i1]
theorem farOf_Y {M : zM} {ps : Nat → List (Nat × Nat)} (h : NmY M (fun q => flat (ps q))) (hl : ∀ q, q < 12 → (ps q).length ≤ 13) {a b : Nat} (ha : a < 12) (hb : b < 12) (hA : okP (ps a)) (hB : okP (ps b)) :
    ∃ o, fMd_farOf (nI a) (nI b) M = some (oI o, M) ∧ isF (frP (ps a) (ps b)) o ∧ smallO o := farOf_Y2 (fun q hq => h q (by omega)) (fun q hq => hl q (by omega)) ha hb hA hB
