/-! PURE: which way a parcel goes, how far -/
section nxS
variable {n : Nat} {E : List (Nat × Nat)}
theorem sS_le {T : tT} {w : Nat → Nat} {o : Option Nat} {k : Nat} (h : ∀ c, c < k → w c ≤ 12) : sS T w o (List.range k) ≤ 12 * k := by
  induction k with
  | zero => exact Nat.zero_le _
  | succ k ih =>
    have h1 := ih (fun c hc => h c (by omega))
    have h2 := h k (by omega)
    by_cases hk : tP T k = o
    · rw [sS_r1 hk]
      omega
    · rw [sS_r0 hk]
      omega
theorem gEnt_le (hW : gW n E) : ∀ (d x : Nat), x < n → tD (gTree n E) x = d → gEnt n E x ≤ 150 * (d + 1) := by
  have hn := hW.1.2
  have hw : ∀ c, c < n → gWt n E c ≤ 12 := fun c hc => Nat.le_trans (gWt_le hW hc) hn
  intro d
  induction d with
  | zero =>
    intro x hx hd
    cases hp : tP (gTree n E) x with
    | none =>
      have := gEnt_root hW hx hp
      have := sS_le (T := gTree n E) (o := none) (k := x) (fun c hc => hw c (by omega))
      omega
    | some p =>
      have := (gTree_par hW hx hp).2
      omega
  | succ d ih =>
    intro x hx hd
    cases hp : tP (gTree n E) x with
    | none =>
      have := gEnt_root hW hx hp
      have := sS_le (T := gTree n E) (o := none) (k := x) (fun c hc => hw c (by omega))
      omega
    | some p =>
      have h1 := gTree_par hW hx hp
      have h2 := gEnt_kid hW hx hp
      have h3 := sS_le (T := gTree n E) (o := some p) (k := x) (fun c hc => hw c (by omega))
      have h4 := ih p h1.1 (by omega)
      omega
theorem ent_lt (hW : gW n E) {x : Nat} (hx : x < n) : gEnt n E x < 5000 ∧ gLev n E x < 5000 := by
  have hn := hW.1.2
  have h1 := gEnt_le hW _ x hx rfl
  have h2 := gLev_eq hW hx
  have h3 := gWt_le hW hx
  have h4 : tD (gTree n E) x < (tO (gTree n E)).length := (gTree_C n E x (gTree_mem hx)).1
  rw [gTree_len hW] at h4
  omega
def spn (n : Nat) (E : List (Nat × Nat)) (a b : Nat) : Bool := decide (gEnt n E a ≤ gEnt n E b) && decide (gEnt n E b ≤ gLev n E a)
theorem spn_und (hW : gW n E) {a b : Nat} (ha : a < n) (hb : b < n) : spn n E a b = true ↔ und (gTree n E) a b := by
  unfold spn
  rw [Bool.and_eq_true, decide_eq_true_eq, decide_eq_true_eq]
  exact span_iff hW ha hb
theorem oI_eq {o : Option Nat} {a : Nat} (ho : ∀ k, o = some k → k < 100) (ha : a < 100) : oI o = nI a ↔ o = some a := by
  cases o with
  | none =>
    constructor
    · intro z
      exact absurd z (m1_eq (by omega))
    · intro z
      cases z
  | some k =>
    have := ho k rfl
    show nI k = nI a ↔ _
    rw [nI_eq (by omega) (by omega)]
    constructor
    · intro z
      rw [z]
    · intro z
      exact Option.some.inj z
theorem par_eq (hW : gW n E) {x a : Nat} (hx : x < n) (ha : a < n) : oI (tP (gTree n E) x) = nI a ↔ tP (gTree n E) x = some a := by
  have hn := hW.1.2
  exact oI_eq (fun k hk => by have := (gTree_par hW hx hk).1; omega) (by omega)
def nxt (n : Nat) (E : List (Nat × Nat)) (a b : Nat) (o : Option Nat) : Prop :=
  (a = b → o = some b) ∧ (¬ a = b → ¬ tR (gTree n E) a = tR (gTree n E) b → o = none) ∧ (¬ a = b → tR (gTree n E) a = tR (gTree n E) b → ¬ und (gTree n E) a b → o = tP (gTree n E) a) ∧
  (¬ a = b → tR (gTree n E) a = tR (gTree n E) b → und (gTree n E) a b → ∃ c, o = some c ∧ c < n ∧ tP (gTree n E) c = some a ∧ und (gTree n E) c b)
theorem nxt_one (hW : gW n E) {a b : Nat} (hb : b < n) {o o2 : Option Nat} (h : nxt n E a b o) (h2 : nxt n E a b o2) : o = o2 := by
  by_cases c1 : a = b
  · rw [h.1 c1, h2.1 c1]
  · by_cases c2 : tR (gTree n E) a = tR (gTree n E) b
    · by_cases c3 : und (gTree n E) a b
      · obtain ⟨c, d1, d2, d3, d4⟩ := h.2.2.2 c1 c2 c3
        obtain ⟨e, f1, f2, f3, f4⟩ := h2.2.2.2 c1 c2 c3
        have x1 := (gTree_par hW d2 d3).2
        have x2 := (gTree_par hW f2 f3).2
        rw [d1, f1, und_same hW hb d4 f4 (by omega)]
      · rw [h.2.2.1 c1 c2 c3, h2.2.2.1 c1 c2 c3]
    · rw [h.2.1 c1 c2, h2.2.1 c1 c2]
theorem kid_ex {a b : Nat} (hW : gW n E) (hb : b < n) (hab : ¬ a = b) (h : und (gTree n E) a b) : ∃ c, c < n ∧ tP (gTree n E) c = some a ∧ und (gTree n E) c b := by
  rcases und_cases h with z | ⟨c, c1, c2⟩
  · exact absurd z.symm hab
  · exact ⟨c, (und_lt hW hb c2).1, c1, c2⟩
/-! the class -/
theorem above_t {M : zM} (hW : gW n E) (hT : TX M n E) {a b : Nat} (ha : a < n) (hb : b < n) : fTree_isAbove (nI a) (nI b) M = some (bI (spn n E a b), M) := by
  have hn := hW.1.2
  have e1 := ent_lt hW ha
  have e2 := ent_lt hW hb
  have ta := hT.2.1 a ha
  have tb := hT.2.1 b hb
  rw [fTree_isAbove, rd_ok (show b < 12 by omega) (by decide), rd_ok (show a < 12 by omega) (by decide), rd_ok (show b < 12 by omega) (by decide), rd_ok (show a < 12 by omega) (by decide), ta.1, tb.1, ta.2, zbl_0, zbl_1]
  show (if nI (gEnt n E b) < nI (gEnt n E a) then _ else if nI (gLev n E a) < nI (gEnt n E b) then _ else _) = _
  unfold spn
  by_cases c1 : gEnt n E b < gEnt n E a
  · rw [if_pos (nI_lt c1 (by omega)), decide_eq_false (by omega), Bool.false_and]
    rfl
  · rw [if_neg (nI_nlt (by omega) (by omega)), decide_eq_true (by omega), Bool.true_and]
    by_cases c2 : gLev n E a < gEnt n E b
    · rw [if_pos (nI_lt c2 (by omega)), decide_eq_false (by omega)]
      rfl
    · rw [if_neg (nI_nlt (by omega) (by omega)), decide_eq_true (by omega)]
      rfl
theorem tR_lt (hW : gW n E) {a : Nat} (ha : a < n) : tR (gTree n E) a < n := (und_lt hW ha (root_und hW _ a ha rfl)).1
theorem root_eq (hW : gW n E) {a b : Nat} (ha : a < n) (hb : b < n) : nI (tR (gTree n E) a) = nI (tR (gTree n E) b) ↔ tR (gTree n E) a = tR (gTree n E) b := by
  have hn := hW.1.2
  have := tR_lt hW ha
  have := tR_lt hW hb
  exact nI_eq (by omega) (by omega)
theorem step_X {M : zM} (hW : gW n E) (hN : NetX M n E) (hC : CX M n E) {a b : Nat} (ha : a < n) (hb : b < n) :
    ∃ o M2, fParcels_step (nI a) (nI b) M = some (oI o, M2) ∧ nxt n E a b o ∧ CX M2 n E ∧ fq zL M M2 := by
  have hn := hW.1.2
  obtain ⟨M1, a1, a2, a3, a4, a5⟩ := fresh_q hW hN hC
  have a6 : fq zL M M1 := fq_mono a5 (fun c k h => by omega)
  have ra := a2.1.2.2.2.2.2 a (gTree_mem ha)
  have rb := a2.1.2.2.2.2.2 b (gTree_mem hb)
  rw [fParcels_step, a1, cl_some, if_pos rfl]
  by_cases c1 : a = b
  · refine ⟨some b, M1, ?_, ⟨fun _ => rfl, fun z => absurd c1 z, fun z => absurd c1 z, fun z => absurd c1 z⟩, a3, a6⟩
    rw [if_neg (by rw [c1]; exact not_not_intro rfl)]
    rfl
  · rw [if_pos (fun z => c1 ((nI_eq (by omega) (by omega)).mp z)), rd_ok (show a < 12 by omega) (by decide), rd_ok (show b < 12 by omega) (by decide), ra.2.1, rb.2.1, above_t hW a2 ha hb, cl_some, rd_ok (show a < 12 by omega) (by decide), ra.1]
    simp only [root_eq hW ha hb]
    by_cases c2 : tR (gTree n E) a = tR (gTree n E) b
    · rw [if_pos c2]
      by_cases c3 : und (gTree n E) a b
      · obtain ⟨c, g1, g2, g3⟩ := kid_ex hW hb c1 c3
        rw [(spn_und hW ha hb).mpr c3, bI_t, if_pos (by decide)]
        have loop : ∃ p, fParcels_step_51 FU (nI a) (nI b) 0 M1 = some (nI p, M1) ∧ p < n ∧ tP (gTree n E) p = some a ∧ und (gTree n E) p b := by
          refine lpE (f := fun fu k (_ : Unit) M => fParcels_step_51 fu (nI a) (nI b) (nI k) M) (n := n)
            (I := fun k _ M' => M' = M1 ∧ k ≤ c)
            (R := fun o => ∃ p, o = some (nI p, M1) ∧ p < n ∧ tP (gTree n E) p = some a ∧ und (gTree n E) p b) ?_ ?_ 0 FU () M1 (by omega) (fu_ok (by omega)) ⟨rfl, by omega⟩
          · rintro fu - M' ⟨rfl, h⟩
            omega
          · rintro fu k - M' hk ⟨rfl, h⟩
            rw [fParcels_step_51, a4.1, if_neg (nI_ge hk (by omega)), rd_ok (show k < 12 by omega) (by decide), (a2.1.2.2.2.2.2 k (gTree_mem hk)).1, above_t hW a2 hk hb, cl_some, nI_1]
            simp only [par_eq hW hk ha]
            by_cases e1 : tP (gTree n E) k = some a
            · rw [if_neg (not_not_intro e1)]
              by_cases e2 : und (gTree n E) k b
              · left
                rw [(spn_und hW hk hb).mpr e2, bI_t, if_neg (by decide)]
                exact ⟨k, rfl, hk, e1, e2⟩
              · right
                rw [Bool.eq_false_iff.mpr (fun z => e2 ((spn_und hW hk hb).mp z)), bI_f, if_pos rfl]
                exact ⟨(), M', rfl, rfl, by
                  rcases Nat.lt_or_eq_of_le h with z | z
                  · omega
                  · rw [z] at e2
                    exact absurd g3 e2⟩
            · right
              rw [if_pos e1]
              exact ⟨(), M', rfl, rfl, by
                rcases Nat.lt_or_eq_of_le h with z | z
                · omega
                · rw [z] at e1
                  exact absurd g2 e1⟩
        obtain ⟨p, l1, l2, l3, l4⟩ := loop
        exact ⟨some p, M1, l1, ⟨fun z => absurd z c1, fun _ z => absurd c2 z, fun _ _ z => absurd c3 z, fun _ _ _ => ⟨p, rfl, l2, l3, l4⟩⟩, a3, a6⟩
      · rw [Bool.eq_false_iff.mpr (fun z => c3 ((spn_und hW ha hb).mp z)), bI_f, if_neg (not_not_intro rfl)]
        exact ⟨tP (gTree n E) a, M1, rfl, ⟨fun z => absurd z c1, fun _ z => absurd c2 z, fun _ _ _ => rfl, fun _ _ z => absurd z c3⟩, a3, a6⟩
    · rw [if_neg c2]
      exact ⟨none, M1, rfl, ⟨fun z => absurd z c1, fun _ _ => rfl, fun _ z => absurd z c2, fun _ z => absurd z c2⟩, a3, a6⟩
/-! the reference -/
def SNY (M : zM) (n : Nat) (E : List (Nat × Nat)) : Prop := M 0 0 = nI n ∧ SY M n (gTree n E) ∧ ∀ x, x < n → okN M n E x
theorem names0_Y {M : zM} (hW : gW n E) (hN : NetY M n E) : ∃ M2, fMd_findNames 0 M = some ((), M2) ∧ SNY M2 n E ∧ fq zY M M2 := by
  have hn := hW.1.2
  obtain ⟨M1, a1, a2, a3⟩ := findTree_Y hW hN
  have hN1 := frY hN a3 rfl rfl rfl rfl rfl (fun kk => ⟨by simp, by simp⟩)
  obtain ⟨M2, b1, b2, b3⟩ := names6 0 12 0 FU M1 (by omega) (by omega) (by unfold FU; omega) (fun q hq => by omega)
  have hP2 : parY M2 n E := ⟨(b3 0 0 rfl rfl).trans hN1.1, fun x hx => (b3 3 x rfl rfl).trans ((SY.par hN1 a2).2 x hx)⟩
  obtain ⟨M3, c1, c2, c3⟩ := findSpans_ok hW hP2
  have hN3 : NmY M3 (nmA n E 0) := fun q hq => by
    rw [c3 12 q rfl rfl]
    exact ⟨(b2 q hq).1, fun j a hj => (by cases hj)⟩
  obtain ⟨M4, d1, d2, d3⟩ := above_Y hW n 0 FU M3 (by omega) (by omega) (by unfold FU; omega) ((hP2.kept c3).1) c2 hN3
  have f1 : fq zY M M1 := fq_fr a3 (fun c k hc => by simp; omega)
  have f2 : fq (fun c _ => c = 12) M1 M2 := fq_fr b3 (fun c k hc => by simp; omega)
  have f3 : fq (fun c _ => c = 8 ∨ c = 9) M2 M3 := fq_fr c3 (fun c k hc => by simp; omega)
  have f4 : fq (fun c _ => c = 12 ∨ c = 13) M3 M4 := fq_fr d3 (fun c k hc => by simp; omega)
  refine ⟨M4, ?_, ⟨?_, ?_, fun x hx => ?_⟩, fq_tr f1 (fq_tr (fq_mono f2 (fun c k h => by omega)) (fq_tr (fq_mono f3 (fun c k h => by omega)) (fq_mono f4 (fun c k h => by omega))))⟩
  · rw [nI_0] at b1 d1
    rw [fMd_findNames, a1, cl_some, b1, kindY, if_neg (by decide), c1, cl_some]
    exact d1
  · rw [f4 0 0 (by omega)]
    exact (hP2.kept c3).1
  · exact SY.fq (SY.fq (SY.fq a2 f2 (fun k => by omega)) f3 (fun k => by omega)) f4 (fun k => by omega)
  · have := c2 x hx
    exact ⟨(f4 8 x (by omega)).trans this.1, (f4 9 x (by omega)).trans this.2⟩
theorem spn_Y {M : zM} (hW : gW n E) {a b : Nat} (ha : a < n) (hb : b < n) : fMd_in (nI (gEnt n E b)).toInt64 (nI (gEnt n E a)).toInt64 (nI (gLev n E a)).toInt64 M = some (bI (spn n E a b), M) := by
  have e1 := ent_lt hW ha
  have e2 := ent_lt hW hb
  rw [in_I]
  unfold spn
  congr 3
  have h1 : (nI (gEnt n E a) ≤ nI (gEnt n E b)) ↔ gEnt n E a ≤ gEnt n E b := nI_leI (by omega) (by omega)
  have h2 : (nI (gEnt n E b) ≤ nI (gLev n E a)) ↔ gEnt n E b ≤ gLev n E a := nI_leI (by omega) (by omega)
  rw [decide_eq_decide.mpr h1, decide_eq_decide.mpr h2]
theorem next_Y {M : zM} (hW : gW n E) (hS : SNY M n E) {a b : Nat} (ha : a < n) (hb : b < n) :
    ∃ o, fMd_nextOf (nI a) (nI b) M = some (oI o, M) ∧ nxt n E a b o := by
  have hn := hW.1.2
  obtain ⟨h0, hS1, hS2⟩ := hS
  have ra := hS1.1 a ha
  have rb := hS1.1 b hb
  rw [if_pos (gTree_mem ha)] at ra
  rw [if_pos (gTree_mem hb)] at rb
  rw [fMd_nextOf]
  by_cases c1 : a = b
  · refine ⟨some b, ?_, ⟨fun _ => rfl, fun z => absurd c1 z, fun z => absurd c1 z, fun z => absurd c1 z⟩⟩
    rw [if_neg (by rw [c1]; exact not_not_intro rfl)]
    rfl
  · rw [if_pos (fun z => c1 ((nI_eq (by omega) (by omega)).mp z)), rd_ok (show a < 12 by omega) (by decide), rd_ok (show b < 12 by omega) (by decide), ra, rb, rd_ok (show b < 12 by omega) (by decide), rd_ok (show a < 12 by omega) (by decide), rd_ok (show a < 12 by omega) (by decide), (hS2 a ha).1, (hS2 a ha).2, (hS2 b hb).1, spn_Y hW ha hb, cl_some, rd_ok (show a < 12 by omega) (by decide), (hS1.2.1 a (gTree_mem ha)).1]
    simp only [root_eq hW ha hb]
    by_cases c2 : tR (gTree n E) a = tR (gTree n E) b
    · rw [if_pos c2]
      by_cases c3 : und (gTree n E) a b
      · obtain ⟨c, g1, g2, g3⟩ := kid_ex hW hb c1 c3
        rw [(spn_und hW ha hb).mpr c3, bI_t, if_pos (by decide)]
        have uni : ∀ k, k < n → tP (gTree n E) k = some a → und (gTree n E) k b → k = c := fun k hk k1 k2 => by
          have x1 := (gTree_par hW hk k1).2
          have x2 := (gTree_par hW g1 g2).2
          exact und_same hW hb k2 g3 (by omega)
        refine ⟨some c, ?_, ⟨fun z => absurd z c1, fun _ z => absurd c2 z, fun _ _ z => absurd c3 z, fun _ _ _ => ⟨c, rfl, g1, g2, g3⟩⟩⟩
        refine lpE (f := fun fu k (s : Int32) M => fMd_nextOf_63 fu (nI a) (nI b) s (nI k) M) (n := n)
          (I := fun k s M' => M' = M ∧ (c < k → s = nI c))
          (R := fun o => o = some (nI c, M)) ?_ ?_ 0 FU (-1) M (by omega) (fu_ok (by omega)) ⟨rfl, fun z => by omega⟩
        · rintro fu s M' ⟨rfl, h⟩
          rw [fMd_nextOf_63, h0, if_pos (nI_le (by omega) (by omega)), h g1]
        · rintro fu k s M' hk ⟨rfl, h⟩
          right
          rw [fMd_nextOf_63, h0, if_neg (nI_ge hk (by omega)), rd_ok (show k < 12 by omega) (by decide), (hS1.2.1 k (gTree_mem hk)).1, rd_ok (show b < 12 by omega) (by decide), rd_ok (show k < 12 by omega) (by decide), rd_ok (show k < 12 by omega) (by decide), (hS2 k hk).1, (hS2 k hk).2, (hS2 b hb).1, spn_Y hW hk hb, cl_some, nI_1]
          simp only [par_eq hW hk ha]
          by_cases e1 : tP (gTree n E) k = some a
          · rw [if_neg (not_not_intro e1)]
            by_cases e2 : und (gTree n E) k b
            · rw [(spn_und hW hk hb).mpr e2, bI_t, if_neg (by decide)]
              refine ⟨nI k, M', rfl, rfl, fun _ => by rw [uni k hk e1 e2]⟩
            · rw [Bool.eq_false_iff.mpr (fun z => e2 ((spn_und hW hk hb).mp z)), bI_f, if_pos rfl]
              refine ⟨s, M', rfl, rfl, fun z => h ?_⟩
              rcases Nat.lt_or_eq_of_le (show c ≤ k by omega) with y | y
              · exact y
              · rw [← y] at e2
                exact absurd g3 e2
          · rw [if_pos e1]
            refine ⟨s, M', rfl, rfl, fun z => h ?_⟩
            rcases Nat.lt_or_eq_of_le (show c ≤ k by omega) with y | y
            · exact y
            · rw [← y] at e1
              exact absurd g2 e1
      · rw [Bool.eq_false_iff.mpr (fun z => c3 ((spn_und hW ha hb).mp z)), bI_f, if_neg (not_not_intro rfl)]
        exact ⟨tP (gTree n E) a, rfl, ⟨fun z => absurd z c1, fun _ z => absurd c2 z, fun _ _ _ => rfl, fun _ _ z => absurd z c3⟩⟩
    · rw [if_neg c2]
      exact ⟨none, rfl, ⟨fun z => absurd z c1, fun _ _ => rfl, fun _ z => absurd z c2, fun _ z => absurd z c2⟩⟩
theorem goes_step (hW : gW n E) {a b : Nat} (ha : a < n) (hb : b < n) (hab : ¬ a = b) (hr : tR (gTree n E) a = tR (gTree n E) b) {o : Option Nat} (h : nxt n E a b o) : ∃ a2, o = some a2 ∧ a2 < n ∧ tR (gTree n E) a2 = tR (gTree n E) b ∧ popc (tA (gTree n E) a ^^^ tA (gTree n E) b) = popc (tA (gTree n E) a2 ^^^ tA (gTree n E) b) + 1 := by
  by_cases c3 : und (gTree n E) a b
  · obtain ⟨c, d1, d2, d3, d4⟩ := h.2.2.2 hab hr c3
    exact ⟨c, d1, d2, ((way_up hW d2 d3).2.2.2.2.2).trans hr, step_down hW d2 hb d3 d4⟩
  · have ho := h.2.2.1 hab hr c3
    cases hp : tP (gTree n E) a with
    | none =>
      exfalso
      rcases gTree_node hW ha with h3 | ⟨p, hp2, p1, -⟩
      · apply c3
        have := root_und hW _ b hb rfl
        rw [← hr, h3.2.2.2.1] at this
        exact this
      · rw [hp] at p1
        cases p1
    | some p =>
      rw [hp] at ho
      have hu := way_up hW ha hp
      exact ⟨p, ho, hu.1, by rw [← hu.2.2.2.2.2, hr], step_up hW ha hb hp c3⟩
theorem goes_Y {M : zM} (hW : gW n E) (hS : SNY M n E) {b : Nat} (hb : b < n) : ∀ (L a k fu : Nat), a < n → tR (gTree n E) a = tR (gTree n E) b → popc (tA (gTree n E) a ^^^ tA (gTree n E) b) = L → L < fu → fMd_goesOf_5 fu (nI b) (nI k) (nI a) M = some (nI (k + L), M) := by
  have hn := hW.1.2
  intro L
  induction L with
  | zero =>
    intro a k fu ha hr hL hf
    obtain ⟨fu, rfl⟩ : ∃ k, fu = k + 1 := ⟨fu - 1, by omega⟩
    by_cases hab : a = b
    · rw [fMd_goesOf_5, if_pos (by rw [hab]), fMd_goesOf_31, if_pos (nI_ge0 (by omega))]
      rfl
    · obtain ⟨o, -, h2⟩ := next_Y hW hS ha hb
      obtain ⟨a2, -, -, -, h3⟩ := goes_step hW ha hb hab hr h2
      omega
  | succ L ih =>
    intro a k fu ha hr hL hf
    obtain ⟨fu, rfl⟩ : ∃ k, fu = k + 1 := ⟨fu - 1, by omega⟩
    by_cases hab : a = b
    · rw [hab, Nat.xor_self] at hL
      have : popc 0 = 0 := by decide
      omega
    · obtain ⟨o, h1, h2⟩ := next_Y hW hS ha hb
      obtain ⟨a2, g1, g2, g3, g4⟩ := goes_step hW ha hb hab hr h2
      rw [fMd_goesOf_5, if_neg (fun z => hab ((nI_eq (by omega) (by omega)).mp z)), if_neg (nI_nlt0 (by omega)), h1, cl_some, g1, nI_1]
      show fMd_goesOf_5 fu (nI b) (nI (k + 1)) (nI a2) M = _
      rw [ih a2 (k + 1) fu g2 g3 (by omega) (by omega), show k + 1 + L = k + (L + 1) by omega]
theorem goesOf_ok {M : zM} (hW : gW n E) (hS : SNY M n E) {a b : Nat} (ha : a < n) (hb : b < n) : fMd_goesOf (nI a) (nI b) M = some (oI (gLen n E a b), M) := by
  have hn := hW.1.2
  rw [fMd_goesOf]
  unfold gLen
  by_cases hr : tR (gTree n E) a = tR (gTree n E) b
  · rw [if_pos hr]
    have := goes_Y hW hS hb _ a 0 FU ha hr rfl (Nat.lt_of_le_of_lt popc_lt (by decide))
    rw [Nat.zero_add] at this
    exact this
  · rw [if_neg hr]
    have hab : ¬ a = b := fun z => hr (by rw [z])
    obtain ⟨o, h1, h2⟩ := next_Y hW hS ha hb
    have ho := h2.2.1 hab hr
    rw [show FU = 4998 + 1 + 1 from rfl, fMd_goesOf_5, if_neg (fun z => hab ((nI_eq (by omega) (by omega)).mp z)), if_neg (nI_nlt0 (by omega)), h1, cl_some, ho]
    show fMd_goesOf_5 (4998 + 1) (nI b) (0 + 1) (-1) M = _
    rw [fMd_goesOf_5, if_neg (m1_eq (by omega)), if_pos (by decide), fMd_goesOf_31, if_neg (by decide)]
    rfl
theorem length_X {M : zM} (hW : gW n E) (hN : NetX M n E) (hC : CX M n E) {a b : Nat} (ha : a < n) (hb : b < n) :
    ∃ M2, fParcels_length (nI a) (nI b) M = some (oI (gLen n E a b), M2) ∧ CX M2 n E ∧ NetX M2 n E ∧ fq (fun c _ => 5 ≤ c ∧ c < 14) M M2 := by
  have hn := hW.1.2
  obtain ⟨M1, a1, a2, a3, a4, a5⟩ := fresh_q hW hN hC
  have ra := a2.1.2.2.2.2.2 a (gTree_mem ha)
  have rb := a2.1.2.2.2.2.2 b (gTree_mem hb)
  refine ⟨M1, ?_, a3, a4, a5⟩
  rw [fParcels_length, a1, cl_some, if_pos rfl, rd_ok (show a < 12 by omega) (by decide), rd_ok (show b < 12 by omega) (by decide), ra.2.1, rb.2.1, rd_ok (show a < 12 by omega) (by decide), rd_ok (show b < 12 by omega) (by decide), ra.2.2, rb.2.2, fb_xorI, bitCount_ok (Nat.lt_trans (xor_lt (tA_lt hW a) (tA_lt hW b)) (by decide)), cl_some]
  simp only [root_eq hW ha hb]
  unfold gLen
  by_cases hr : tR (gTree n E) a = tR (gTree n E) b
  · rw [if_pos hr, if_pos hr]
    rfl
  · rw [if_neg hr, if_neg hr]
    rfl
end nxS
theorem nextY_ok {M : zM} {n : Nat} {E : List (Nat × Nat)} (hW : gW n E) (hN : NetY M n E) {a b : Nat} (ha : a < n) (hb : b < n) : ∃ o M2, fMd_next (nI a) (nI b) M = some (oI o, M2) ∧ nxt n E a b o ∧ fq zY M M2 := by
  have hn := hW.1.2
  obtain ⟨M2, y1, y2, y3⟩ := names0_Y hW hN
  obtain ⟨o, z1, z2⟩ := next_Y hW y2 ha hb
  refine ⟨o, M2, ?_, z2, y3⟩
  rw [fMd_next, noPost_ok hN hW, cl_some, zin_nI ha (by omega), Bool.not_true, bI_f, if_neg (not_not_intro rfl), noPost_ok hN hW, cl_some, zin_nI hb (by omega), Bool.not_true, bI_f, if_pos rfl, y1, cl_some, z1, cl_some]
theorem st_next (a0 a1 : Int32) : zStep Rl (fun M => fNN_next a0 a1 M) (fun M => fMd_next a0 a1 M) := by
  rintro Mx My t ht ⟨n, E, B, tx, an, pl, c, h⟩
  have hW := h.1
  have hn := hW.1.2
  have hX := h.2.2.2.2.1
  have hY := h.2.2.2.2.2.1
  rcases zin3_cases a0 (n := n) (by omega) with ⟨a, ha, rfl, h1⟩ | h1
  · rcases zin3_cases a1 (n := n) (by omega) with ⟨b, hb, rfl, h2⟩ | h2
    · obtain ⟨o, M2, x1, x2, x3, x4⟩ := step_X hW hX.1 hX.2.1 ha hb
      obtain ⟨o2, M3, y1, y2, y3⟩ := nextY_ok hW hY ha hb
      have := nxt_one hW hb x2 y2
      subst this
      refine ⟨oI o, M2, M3, ?_, y1, Rl_rd h (zRd_of_zL x4) x3 y3⟩
      show fNN_next (nI a) (nI b) Mx = _
      rw [fNN_next, hasPosts_ok hX.1 hW, cl_some, h1, h2, Bool.and_true, bI_t, if_neg (by decide), x1, cl_some]
    · refine ⟨-1001, Mx, My, ?_, ?_, Rl_same h⟩
      · show fNN_next (nI a) a1 Mx = _
        rw [fNN_next, hasPosts_ok hX.1 hW, cl_some, h2, Bool.and_false, bI_f, if_pos rfl]
      · show fMd_next (nI a) a1 My = _
        rw [fMd_next, noPost_ok hY hW, cl_some, h1, Bool.not_true, bI_f, if_neg (not_not_intro rfl), noPost_ok hY hW, cl_some, h2, Bool.not_false, bI_t, if_neg (by decide)]
  · refine ⟨-1001, Mx, My, ?_, ?_, Rl_same h⟩
    · show fNN_next a0 a1 Mx = _
      rw [fNN_next, hasPosts_ok hX.1 hW, cl_some, h1, Bool.false_and, bI_f, if_pos rfl]
    · show fMd_next a0 a1 My = _
      rw [fMd_next, noPost_ok hY hW, cl_some, h1, Bool.not_false, bI_t, if_pos (by decide)]
theorem st_goes (a0 a1 : Int32) : zStep Rl (fun M => fNN_goes a0 a1 M) (fun M => fMd_goes a0 a1 M) := by
  rintro Mx My t ht ⟨n, E, B, tx, an, pl, c, h⟩
  have hW := h.1
  have hn := hW.1.2
  have hX := h.2.2.2.2.1
  have hY := h.2.2.2.2.2.1
  rcases zin3_cases a0 (n := n) (by omega) with ⟨a, ha, rfl, h1⟩ | h1
  · rcases zin3_cases a1 (n := n) (by omega) with ⟨b, hb, rfl, h2⟩ | h2
    · obtain ⟨M2, x1, x2, x3, x4⟩ := length_X hW hX.1 hX.2.1 ha hb
      obtain ⟨M3, y1, y2, y3⟩ := names0_Y hW hY
      refine ⟨oI (gLen n E a b), M2, M3, ?_, ?_, Rl_rd h (fq_mono x4 (fun c k h => by omega)) x2 y3⟩
      · show fNN_goes (nI a) (nI b) Mx = _
        rw [fNN_goes, hasPosts_ok hX.1 hW, cl_some, h1, h2, Bool.and_true, bI_t, if_neg (by decide), x1, cl_some]
      · show fMd_goes (nI a) (nI b) My = _
        rw [fMd_goes, noPost_ok hY hW, cl_some, h1, Bool.not_true, bI_f, if_neg (not_not_intro rfl), noPost_ok hY hW, cl_some, h2, Bool.not_true, bI_f, if_pos rfl, y1, cl_some, goesOf_ok hW y2 ha hb, cl_some]
    · refine ⟨-1001, Mx, My, ?_, ?_, Rl_same h⟩
      · show fNN_goes (nI a) a1 Mx = _
        rw [fNN_goes, hasPosts_ok hX.1 hW, cl_some, h2, Bool.and_false, bI_f, if_pos rfl]
      · show fMd_goes (nI a) a1 My = _
        rw [fMd_goes, noPost_ok hY hW, cl_some, h1, Bool.not_true, bI_f, if_neg (not_not_intro rfl), noPost_ok hY hW, cl_some, h2, Bool.not_false, bI_t, if_neg (by decide)]
  · refine ⟨-1001, Mx, My, ?_, ?_, Rl_same h⟩
    · show fNN_goes a0 a1 Mx = _
      rw [fNN_goes, hasPosts_ok hX.1 hW, cl_some, h1, Bool.false_and, bI_f, if_pos rfl]
    · show fMd_goes a0 a1 My = _
      rw [fMd_goes, noPost_ok hY hW, cl_some, h1, Bool.not_false, bI_t, if_pos (by decide)]
