/-! PURE: what two names answer -/
def unfl : List Nat → List (Nat × Nat)
  | a :: b :: l => (a, b) :: unfl l
  | _ => []
theorem unfl_flat : ∀ l : List (Nat × Nat), unfl (flat l) = l
  | [] => rfl
  | e :: l => by
    rw [flat, unfl, unfl_flat l]
def shp (kd : Nat) (l : List Nat) : Prop := l.length ≤ wK kd ∧ (kd = 0 → l.length = 2) ∧ (kd = 1 → 1 ≤ l.length) ∧ (kd = 2 → ∃ ps, l = flat ps ∧ okP ps)
def rep0 (la lb : List Nat) : Bool := decide (nI (la.getD 0 0) ≤ nI (lb.getD 0 0)) && decide (nI (lb.getD 0 0) ≤ nI (la.getD 1 0))
def behL (t : Nat) (l : List Nat) : Bool := (l.drop 1).any (fun x => decide (nI x = nI t))
def rep1 (la lb : List Nat) : Bool := behL (la.getD 0 0) lb || behL (lb.getD 0 0) la
noncomputable def rep (kd : Nat) (la lb : List Nat) : Int32 := if kd = 0 then bI (rep0 la lb) else if kd = 1 then bI (rep1 la lb) else oI (farO (unfl la) (unfl lb))
theorem getD_some {l : List Nat} {j : Nat} (h : j < l.length) : l[j]? = some (l.getD j 0) := getD_of h
theorem num_in {M : zM} {c0 w : Nat} {nm : Nat → List Nat} (h : NmX M c0 w nm) (hw : w ≤ 26) (hz : zln (c0 + 2) = 12 * w) {q j : Nat} (hq : q < 12) (hj : j < (nm q).length) : fNames_number c0 (nI q) (nI j) M = some (nI ((nm q).getD j 0), M) := by
  have := (h.2 q hq).2.1
  rw [number_ok h hw hz hq (by omega), getD_some hj]
  rfl
theorem drop1_any {P : Nat → Bool} {l : List Nat} (k : Nat) : l.drop k = [] ∨ ∃ x, l[k]? = some x ∧ l.drop k = x :: l.drop (k + 1) := by
  by_cases h : k < l.length
  · right
    obtain ⟨x, hx⟩ : ∃ x, l[k]? = some x := ⟨_, List.getElem?_eq_getElem h⟩
    exact ⟨x, hx, drop_cons hx⟩
  · left
    exact List.drop_eq_nil_of_le (by omega)
theorem behind_X {M : zM} {c0 w : Nat} {nm : Nat → List Nat} (h : NmX M c0 w nm) (hw : w ≤ 26) (hz : zln (c0 + 2) = 12 * w) {a b : Nat} (ha : a < 12) (hb : b < 12) (hla : 1 ≤ (nm a).length) (hlb : 1 ≤ (nm b).length) : fNames_standsBehind c0 (nI a) (nI b) M = some (bI (behL ((nm a).getD 0 0) (nm b)), M) := by
  have hl := (h.2 b hb).2.1
  rw [fNames_standsBehind, qlit0, num_in h hw hz ha (by omega), cl_some]
  refine lpE (f := fun fu k (_ : Unit) M => fNames_standsBehind_10 fu c0 (nI b) (nI ((nm a).getD 0 0)) (nI k) M) (n := (nm b).length)
    (I := fun k _ M' => M' = M ∧ 1 ≤ k ∧ behL ((nm a).getD 0 0) (nm b) = ((nm b).drop k).any (fun x => decide (nI x = nI ((nm a).getD 0 0))))
    (R := fun o => o = some (bI (behL ((nm a).getD 0 0) (nm b)), M)) ?_ ?_ 1 FU () M (by omega) (fu_ok (by omega)) ⟨rfl, by omega, rfl⟩
  · rintro fu - M' ⟨rfl, -, h2⟩
    rw [fNames_standsBehind_10, rd_ok hb (by decide), (h.2 b hb).1, if_pos (nI_le (by omega) (by omega)), h2, List.drop_length]
    rfl
  · rintro fu k - M' hk ⟨rfl, h1, h2⟩
    have hx := getD_some hk
    rw [drop_cons hx, List.any_cons] at h2
    rw [fNames_standsBehind_10, rd_ok hb (by decide), (h.2 b hb).1, if_neg (nI_ge hk (by omega)), num_in h hw hz hb hk, cl_some, nI_1]
    by_cases he : nI ((nm b).getD k 0) = nI ((nm a).getD 0 0)
    · left
      rw [if_neg (not_not_intro he), h2, zbl_1, decide_eq_true he, Bool.true_or, bI_t]
    · right
      rw [if_pos he]
      refine ⟨(), M', rfl, rfl, by omega, ?_⟩
      rw [h2, decide_eq_false he, Bool.false_or]
theorem reply_X {M : zM} {c0 kd : Nat} {nm : Nat → List Nat} (hk : kd < 3) (h0 : M c0 0 = nI kd) (h : NmX M c0 (wK kd) nm) (hz : zln (c0 + 2) = 12 * wK kd) {a b : Nat} (ha : a < 12) (hb : b < 12) (hA : shp kd (nm a)) (hB : shp kd (nm b)) : fNames_reply c0 (nI a) (nI b) M = some (rep kd (nm a) (nm b), M) := by
  obtain hkd | hkd | hkd : kd = 0 ∨ kd = 1 ∨ kd = 2 := by omega
  · subst hkd
    have la := hA.2.1 rfl
    have lb := hB.2.1 rfl
    have hw : wK 0 ≤ 26 := by decide
    rw [fNames_reply, h0, if_neg (show ¬ ¬ nI 0 = 0 from not_not_intro rfl), fNames_isAbove, qlit0, num_in h hw hz hb (by omega), cl_some, num_in h hw hz ha (by omega), cl_some, qlit1, num_in h hw hz ha (by omega), cl_some]
    show _ = some (bI (rep0 (nm a) (nm b)), M)
    unfold rep0
    by_cases c1 : nI ((nm b).getD 0 0) < nI ((nm a).getD 0 0)
    · have : ¬ nI ((nm a).getD 0 0) ≤ nI ((nm b).getD 0 0) := (fa_of_lt c1).2.1
      rw [if_pos c1]
      simp only [this, decide_false, Bool.false_and, bI_f]
      rfl
    · have h1 : nI ((nm a).getD 0 0) ≤ nI ((nm b).getD 0 0) := fa_of_nlt c1
      rw [if_neg c1]
      by_cases c2 : nI ((nm a).getD 1 0) < nI ((nm b).getD 0 0)
      · have : ¬ nI ((nm b).getD 0 0) ≤ nI ((nm a).getD 1 0) := (fa_of_lt c2).2.1
        rw [if_pos c2]
        simp only [this, decide_false, Bool.and_false, bI_f]
        rfl
      · have h2 : nI ((nm b).getD 0 0) ≤ nI ((nm a).getD 1 0) := fa_of_nlt c2
        rw [if_neg c2]
        simp only [h1, h2, decide_true, Bool.and_true, bI_t]
        rfl
  · subst hkd
    have la := hA.2.2.1 rfl
    have lb := hB.2.2.1 rfl
    have hw : wK 1 ≤ 26 := by decide
    rw [fNames_reply, h0, if_pos (by decide), if_neg (show ¬ ¬ nI 1 = 1 from not_not_intro rfl), behind_X h hw hz ha hb la lb, cl_some, behind_X h hw hz hb ha lb la, cl_some]
    show _ = some (bI (rep1 (nm a) (nm b)), M)
    unfold rep1
    cases behL ((nm a).getD 0 0) (nm b) <;> cases behL ((nm b).getD 0 0) (nm a) <;> rfl
  · subst hkd
    obtain ⟨A, a1, a2⟩ := hA.2.2.2 rfl
    obtain ⟨B, b1, b2⟩ := hB.2.2.2 rfl
    have hw : wK 2 ≤ 26 := by decide
    have hla := (h.2 a ha).2.1
    have hlb := (h.2 b hb).2.1
    have num : ∀ {q j : Nat} {l : List (Nat × Nat)}, q < 12 → nm q = flat l → j < 100 → fNames_number c0 (nI q) (nI j) M = some (oI (flat l)[j]?, M) := fun {q j l} hq e hj => by
      rw [number_ok h hw hz hq (by omega), e]
    have hps : ∃ o, fNames_distance c0 (nI a) (nI b) M = some (oI o, M) ∧ isF (frP A B) o ∧ smallO o := by
      have e1 : M (c0 + 1) a = nI (2 * A.length) := by rw [(h.2 a ha).1, a1, flat_len]
      have e2 : M (c0 + 1) b = nI (2 * B.length) := by rw [(h.2 b hb).1, b1, flat_len]
      rw [a1, flat_len] at hla
      rw [b1, flat_len] at hlb
      have hla : 2 * A.length ≤ 24 := hla
      have hlb : 2 * B.length ≤ 24 := hlb
      exact distance_X2 e1 e2 hla hlb (fun hj => num ha a1 hj) (fun hj => num hb b1 hj) ha hb a2 b2
    obtain ⟨o, d1, d2, -⟩ := hps
    rw [fNames_reply, h0, if_pos (by decide), if_pos (by decide), d1, cl_some]
    show _ = some (oI (farO (unfl (nm a)) (unfl (nm b))), M)
    rw [a1, b1, unfl_flat, unfl_flat, isF_one (farO_is A B) d2]
def rowY (M : zM) (q : Nat) (l : List Nat) : Prop := M 12 q = nI l.length ∧ ∀ j x : Nat, l[j]? = some x → M 13 (26 * q + j) = nI x
theorem rowY_get {M : zM} {q : Nat} {l : List Nat} (h : rowY M q l) (hq : q < 12) (hl : l.length ≤ 26) {j : Nat} (hj : j < l.length) {α : Type} {K : Int32 → Option α} : rd M 13 312 (nI (26 * q + j)) K = K (nI (l.getD j 0)) := by
  rw [rd_ok (show 26 * q + j < 312 by omega) (by decide), h.2 j _ (getD_some hj)]
theorem say117 {M : zM} {a b : Nat} {la lb : List Nat} (hA : rowY M a la) (hB : rowY M b lb) (ha : a < 12) (hb : b < 12) (h1 : 1 ≤ la.length) (h2 : la.length ≤ 26) (h3 : 1 ≤ lb.length) (h4 : lb.length ≤ 26) (v : Bool) : fMd_sayOf_117 FU (nI a) (nI b) (bI v) 1 M = some (bI (v || behL (la.getD 0 0) lb), M) := by
  refine lpE (f := fun fu k (s : Bool) M => fMd_sayOf_117 fu (nI a) (nI b) (bI s) (nI k) M) (n := lb.length)
    (I := fun k s M' => M' = M ∧ 1 ≤ k ∧ (v || behL (la.getD 0 0) lb) = (s || (lb.drop k).any (fun x => decide (nI x = nI (la.getD 0 0)))))
    (R := fun o => o = some (bI (v || behL (la.getD 0 0) lb), M)) ?_ ?_ 1 FU v M (by omega) (fu_ok (by omega)) ⟨rfl, by omega, rfl⟩
  · rintro fu s M' ⟨rfl, -, h5⟩
    rw [fMd_sayOf_117, rd_ok hb (by decide), hB.1, if_pos (nI_le (by omega) (by omega)), bit_ok, cl_some, h5, List.drop_length]
    simp
  · rintro fu k s M' hk ⟨rfl, h5, h6⟩
    right
    rw [drop_cons (getD_some hk), List.any_cons] at h6
    have r0 := @rowY_get _ _ _ hA ha h2 0 (by omega) (Int32 × zM)
    have rk := @rowY_get _ _ _ hB hb h4 k hk (Int32 × zM)
    rw [Nat.add_zero] at r0
    rw [fMd_sayOf_117, rd_ok hb (by decide), hB.1, if_neg (nI_ge hk (by omega)), nI_1, qlit26, nI_times, nI_times, nI_add, rk, r0]
    cases s with
    | true =>
      rw [bI_t, if_pos (by decide)]
      exact ⟨true, M', rfl, rfl, by omega, by rw [h6]; simp⟩
    | false =>
      rw [bI_f, if_neg (not_not_intro rfl)]
      by_cases he : nI (lb.getD k 0) = nI (la.getD 0 0)
      · rw [if_neg (not_not_intro he)]
        exact ⟨true, M', rfl, rfl, by omega, by rw [h6, decide_eq_true he]; rfl⟩
      · rw [if_pos he]
        exact ⟨false, M', rfl, rfl, by omega, by rw [h6, decide_eq_false he]; rfl⟩
theorem say61 {M : zM} {a b : Nat} {la lb : List Nat} (hA : rowY M a la) (hB : rowY M b lb) (ha : a < 12) (hb : b < 12) (h1 : 1 ≤ la.length) (h2 : la.length ≤ 26) (h3 : 1 ≤ lb.length) (h4 : lb.length ≤ 26) : fMd_sayOf_61 FU (nI a) (nI b) 0 1 M = some (bI (behL (lb.getD 0 0) la || behL (la.getD 0 0) lb), M) := by
  refine lpE (f := fun fu k (s : Bool) M => fMd_sayOf_61 fu (nI a) (nI b) (bI s) (nI k) M) (n := la.length)
    (I := fun k s M' => M' = M ∧ 1 ≤ k ∧ (behL (lb.getD 0 0) la) = (s || (la.drop k).any (fun x => decide (nI x = nI (lb.getD 0 0)))))
    (R := fun o => o = some (bI (behL (lb.getD 0 0) la || behL (la.getD 0 0) lb), M)) ?_ ?_ 1 FU false M (by omega) (fu_ok (by omega)) ⟨rfl, by omega, rfl⟩
  · rintro fu s M' ⟨rfl, -, h5⟩
    rw [List.drop_length] at h5
    simp only [List.any_nil, Bool.or_false] at h5
    rw [fMd_sayOf_61, rd_ok ha (by decide), hA.1, if_pos (nI_le (by omega) (by omega)), h5, say117 hA hB ha hb h1 h2 h3 h4]
  · rintro fu k s M' hk ⟨rfl, h5, h6⟩
    right
    rw [drop_cons (getD_some hk), List.any_cons] at h6
    have r0 := @rowY_get _ _ _ hB hb h4 0 (by omega) (Int32 × zM)
    have rk := @rowY_get _ _ _ hA ha h2 k hk (Int32 × zM)
    rw [Nat.add_zero] at r0
    rw [fMd_sayOf_61, rd_ok ha (by decide), hA.1, if_neg (nI_ge hk (by omega)), nI_1, qlit26, nI_times, nI_times, nI_add, rk, r0]
    cases s with
    | true =>
      rw [bI_t, if_pos (by decide)]
      exact ⟨true, M', rfl, rfl, by omega, by rw [h6]; simp⟩
    | false =>
      rw [bI_f, if_neg (not_not_intro rfl)]
      by_cases he : nI (la.getD k 0) = nI (lb.getD 0 0)
      · rw [if_neg (not_not_intro he)]
        exact ⟨true, M', rfl, rfl, by omega, by rw [h6, decide_eq_true he]; rfl⟩
      · rw [if_pos he]
        exact ⟨false, M', rfl, rfl, by omega, by rw [h6, decide_eq_false he]; rfl⟩
theorem say_Y {M : zM} {kd a b : Nat} (hk : kd < 3) {la lb : List Nat} (hA : rowY M a la) (hB : rowY M b lb) (ha : a < 12) (hb : b < 12) (sA : shp kd la) (sB : shp kd lb) (hab : a = b → la = lb) : fMd_sayOf (nI kd) (nI a) (nI b) M = some (rep kd la lb, M) := by
  obtain hkd | hkd | hkd : kd = 0 ∨ kd = 1 ∨ kd = 2 := by omega
  · subst hkd
    have la2 := sA.2.1 rfl
    have lb2 := sB.2.1 rfl
    have rb0 := @rowY_get _ _ _ hB hb (by omega) 0 (by omega) (Int32 × zM)
    have ra0 := @rowY_get _ _ _ hA ha (by omega) 0 (by omega) (Int32 × zM)
    have ra1 := @rowY_get _ _ _ hA ha (by omega) 1 (by omega) (Int32 × zM)
    rw [Nat.add_zero] at ra0 rb0
    rw [fMd_sayOf, if_neg (show ¬ ¬ nI 0 = 0 from not_not_intro rfl), qlit26, nI_times, nI_times, nI_1, rb0, ra0, ra1, in_I, cl_some, bit_ok, cl_some]
    rfl
  · subst hkd
    have la2 := sA.2.2.1 rfl
    have lb2 := sB.2.2.1 rfl
    have la3 : la.length ≤ 12 := sA.1
    have lb3 : lb.length ≤ 12 := sB.1
    rw [fMd_sayOf, if_pos (by decide), if_pos (by decide), say61 hA hB ha hb la2 (by omega) lb2 (by omega)]
    show _ = some (bI (rep1 la lb), M)
    unfold rep1
    rw [Bool.or_comm]
  · subst hkd
    obtain ⟨A, a1, a2⟩ := sA.2.2.2 rfl
    obtain ⟨B, b1, b2⟩ := sB.2.2.2 rfl
    have hla : la.length ≤ 24 := sA.1
    have hlb : lb.length ≤ 24 := sB.1
    have hAB : a = b → A = B := fun z => by
      rw [← unfl_flat A, ← unfl_flat B, ← a1, ← b1, hab z]
    have hp1 : fup (fun _ => B) a A a = A := fup_eq
    have hp2 : fup (fun _ => B) a A b = B := by
      by_cases h2 : b = a
      · rw [h2, fup_eq]
        exact hAB h2.symm
      · rw [fup_ne h2]
    obtain ⟨o, d1, d2, -⟩ := farOf_Y2 (M := M) (ps := fup (fun _ => B) a A) (a := a) (b := b) (fun q hq => by
      rcases hq with hq | hq
      · rw [hq, hp1, ← a1]
        exact hA
      · rw [hq, hp2, ← b1]
        exact hB) (fun q hq => by
      rw [a1, flat_len] at hla
      rw [b1, flat_len] at hlb
      rcases hq with hq | hq
      · rw [hq, hp1]
        omega
      · rw [hq, hp2]
        omega) ha hb (by rw [hp1]; exact a2) (by rw [hp2]; exact b2)
    rw [hp1, hp2] at d2
    rw [fMd_sayOf, if_pos (by decide), if_neg (show ¬ ¬ nI 2 = 2 from not_not_intro rfl), d1, cl_some]
    show _ = some (oI (farO (unfl la) (unfl lb)), M)
    rw [a1, b1, unfl_flat, unfl_flat, isF_one (farO_is A B) d2]
