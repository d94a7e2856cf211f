/-! PURE: what weights and numbers of posts are -/
/-- the weights, added up, of those in the list that stand straight below o -/
def sS (T : tT) (w : Nat → Nat) (o : Option Nat) (l : List Nat) : Nat := ((l.filter (fun c => decide (tP T c = o))).map w).sum
theorem sS_nil {T : tT} {w : Nat → Nat} {o : Option Nat} : sS T w o [] = 0 := rfl
theorem sS_in {T : tT} {w : Nat → Nat} {o : Option Nat} {q : Nat} {l : List Nat} (h : tP T q = o) : sS T w o (q :: l) = w q + sS T w o l := by
  unfold sS
  rw [List.filter_cons, if_pos (by simpa using h)]
  rfl
theorem sS_out {T : tT} {w : Nat → Nat} {o : Option Nat} {q : Nat} {l : List Nat} (h : ¬ tP T q = o) : sS T w o (q :: l) = sS T w o l := by
  unfold sS
  rw [List.filter_cons, if_neg (by simpa using h)]
theorem sS_app {T : tT} {w : Nat → Nat} {o : Option Nat} {l s : List Nat} : sS T w o (l ++ s) = sS T w o l + sS T w o s := by
  unfold sS
  rw [List.filter_append, List.map_append, List.sum_append]
theorem sS_1 {T : tT} {w : Nat → Nat} {o : Option Nat} {q : Nat} {l : List Nat} (h : tP T q = o) : sS T w o (l ++ [q]) = sS T w o l + w q := by
  rw [sS_app, sS_in h, sS_nil]
  rfl
theorem sS_0 {T : tT} {w : Nat → Nat} {o : Option Nat} {q : Nat} {l : List Nat} (h : ¬ tP T q = o) : sS T w o (l ++ [q]) = sS T w o l := by
  rw [sS_app, sS_out h, sS_nil]
  rfl
theorem sS_congr {T : tT} {w w2 : Nat → Nat} {o : Option Nat} : ∀ {l : List Nat}, (∀ c ∈ l, w c = w2 c) → sS T w o l = sS T w2 o l
  | [], _ => rfl
  | q :: l, h => by
    have ih := sS_congr (T := T) (o := o) (l := l) (fun c hc => h c (List.mem_cons_of_mem _ hc))
    by_cases hq : tP T q = o
    · rw [sS_in hq, sS_in hq, ih, h q List.mem_cons_self]
    · rw [sS_out hq, sS_out hq, ih]
theorem sS_none {T : tT} {w : Nat → Nat} {o : Option Nat} : ∀ {l : List Nat}, (∀ c ∈ l, ¬ tP T c = o) → sS T w o l = 0
  | [], _ => rfl
  | q :: l, h => by
    rw [sS_out (h q List.mem_cons_self)]
    exact sS_none (fun c hc => h c (List.mem_cons_of_mem _ hc))
theorem nd_ix {l : List Nat} (h : l.Nodup) {i j a : Nat} (hi : l[i]? = some a) (hj : l[j]? = some a) : i = j := by
  obtain ⟨h1, h2⟩ := List.getElem?_eq_some_iff.mp hi
  obtain ⟨h3, h4⟩ := List.getElem?_eq_some_iff.mp hj
  rcases Nat.lt_trichotomy i j with hl | hl | hl
  · exact absurd (h2.trans h4.symm) (List.pairwise_iff_getElem.mp h i j h1 h3 hl)
  · exact hl
  · exact absurd (h4.trans h2.symm) (List.pairwise_iff_getElem.mp h j i h3 h1 hl)
theorem mem_drop_ix {l : List Nat} {i a : Nat} (h : a ∈ l.drop i) : ∃ j, i ≤ j ∧ l[j]? = some a := by
  obtain ⟨k, hk⟩ := List.getElem?_of_mem h
  rw [List.getElem?_drop] at hk
  exact ⟨i + k, by omega, hk⟩
theorem mem_take_ix {l : List Nat} {i a : Nat} (h : a ∈ l.take i) : ∃ j, j < i ∧ l[j]? = some a := by
  obtain ⟨k, hk⟩ := List.getElem?_of_mem h
  have hlt := (List.getElem?_eq_some_iff.mp hk).1
  rw [List.length_take] at hlt
  rw [List.getElem?_take, if_pos (by omega)] at hk
  exact ⟨k, by omega, hk⟩
theorem wUp_eq {T : tT} (hnd : (tO T).Nodup) (hH : tH T) : ∀ (i : Nat) (w : Nat → Nat), i ≤ (tO T).length → (∀ x, w x = 1 + sS T w (some x) ((tO T).drop i)) → ∀ x, wUp T i w x = 1 + sS T (wUp T i w) (some x) (tO T)
  | 0, w, _, h => h
  | i + 1, w, hi, h => by
    rw [wUp]
    have hq := getD_of (show i < (tO T).length by omega)
    generalize (tO T).getD i 0 = q at *
    refine wUp_eq hnd hH i _ (by omega) (fun x => ?_)
    rw [drop_cons hq]
    cases ho : tP T q with
    | none =>
      rw [sS_out (by rw [ho]; exact fun z => by cases z)]
      exact h x
    | some pp =>
      show fup w pp (w pp + w q) x = 1 + sS T (fup w pp (w pp + w q)) (some x) (q :: (tO T).drop (i + 1))
      obtain ⟨ip, hip, hipp⟩ := hH i q pp hq ho
      have hcg : ∀ c ∈ q :: (tO T).drop (i + 1), fup w pp (w pp + w q) c = w c := by
        intro c hc
        refine fup_ne (fun hcp => ?_)
        rw [hcp] at hc
        rcases List.mem_cons.mp hc with h1 | h1
        · have := nd_ix hnd hipp (h1 ▸ hq)
          omega
        · obtain ⟨j, hj, hjc⟩ := mem_drop_ix h1
          have := nd_ix hnd hipp hjc
          omega
      rw [sS_congr hcg]
      by_cases hx : x = pp
      · rw [hx, fup_eq, sS_in ho, h pp]
        omega
      · rw [fup_ne hx, sS_out (by rw [ho]; exact fun z => hx (Option.some.inj z).symm)]
        exact h x
/-- a post weighs one more than those straight below it together -/
theorem tWt_eq {T : tT} (hnd : (tO T).Nodup) (hH : tH T) (x : Nat) : tWt T x = 1 + sS T (tWt T) (some x) (tO T) :=
  wUp_eq hnd hH (tO T).length (fun _ => 1) (Nat.le_refl _) (fun x => by rw [List.drop_length]; rfl) x
/-- when the first i are through -/
def eInv (T : tT) (w : Nat → Nat) (i : Nat) (S : eT) : Prop :=
  S.2.2 = sS T w none ((tO T).take i) ∧ (∀ j x, j < i → (tO T)[j]? = some x → S.2.1 x = S.1 x + sS T w (some x) ((tO T).take i)) ∧
  (∀ j x, j < i → (tO T)[j]? = some x → tP T x = none → S.1 x = sS T w none ((tO T).take j)) ∧
  ∀ j x pp, j < i → (tO T)[j]? = some x → tP T x = some pp → S.1 x = S.1 pp + 1 + sS T w (some pp) ((tO T).take j)
theorem eInv_step {T : tT} (hnd : (tO T).Nodup) (hH : tH T) {w : Nat → Nat} {i q : Nat} {S : eT} (hq : (tO T)[i]? = some q) (h : eInv T w i S) : eInv T w (i + 1) (eStep T w q S) := by
  have htk : (tO T).take (i + 1) = (tO T).take i ++ [q] := by
    rw [List.take_add_one, hq]
    rfl
  obtain ⟨h1, h2, h3, h4⟩ := h
  have hne : ∀ j x, j < i → (tO T)[j]? = some x → ¬ x = q := fun j x hj hx e => by
    have := nd_ix hnd (e ▸ hx) hq
    omega
  have h0 : sS T w (some q) ((tO T).take (i + 1)) = 0 := sS_none (fun c hc hcq => by
    obtain ⟨j, hj, hjc⟩ := mem_take_ix hc
    obtain ⟨i2, hi2, hi2q⟩ := hH j c q hjc hcq
    have := nd_ix hnd hi2q hq
    omega)
  have hsplit : ∀ j x, j < i + 1 → (tO T)[j]? = some x → (j < i ∧ ¬ x = q) ∨ (j = i ∧ x = q) := fun j x hj hx => by
    by_cases hji : j = i
    · rw [hji] at hx
      exact Or.inr ⟨hji, Option.some.inj (hx.symm.trans hq)⟩
    · exact Or.inl ⟨by omega, hne j x (by omega) hx⟩
  cases ho : tP T q with
  | none =>
    have hst : eStep T w q S = (fup S.1 q S.2.2, fup S.2.1 q S.2.2, S.2.2 + w q) := by unfold eStep; rw [ho]
    rw [hst]
    refine ⟨?_, fun j x hj hx => ?_, fun j x hj hx hn => ?_, fun j x pp hj hx hpp => ?_⟩
    · show S.2.2 + w q = _
      rw [htk, sS_1 ho, h1]
    · show fup S.2.1 q S.2.2 x = fup S.1 q S.2.2 x + _
      rcases hsplit j x hj hx with ⟨ha, hb⟩ | ⟨ha, hb⟩
      · rw [fup_ne hb, fup_ne hb, htk, sS_0 (by rw [ho]; exact fun z => by cases z)]
        exact h2 j x ha hx
      · rw [hb, fup_eq, fup_eq, h0]
        rfl
    · show fup S.1 q S.2.2 x = _
      rcases hsplit j x hj hx with ⟨ha, hb⟩ | ⟨ha, hb⟩
      · rw [fup_ne hb]
        exact h3 j x ha hx hn
      · rw [hb, fup_eq, ha, h1]
    · show fup S.1 q S.2.2 x = fup S.1 q S.2.2 pp + 1 + _
      rcases hsplit j x hj hx with ⟨ha, hb⟩ | ⟨ha, hb⟩
      · obtain ⟨i2, hi2, hi2p⟩ := hH j x pp hx hpp
        rw [fup_ne hb, fup_ne (hne i2 pp (by omega) hi2p)]
        exact h4 j x pp ha hx hpp
      · rw [hb, ho] at hpp
        cases hpp
  | some p0 =>
    obtain ⟨ip, hip, hipp⟩ := hH i q p0 hq ho
    have hpq := hne ip p0 hip hipp
    have hst : eStep T w q S = (fup S.1 q (S.2.1 p0 + 1), fup (fup S.2.1 q (S.2.1 p0 + 1)) p0 (S.2.1 p0 + w q), S.2.2) := by
      unfold eStep
      rw [ho]
      show (_, fup _ p0 (fup S.2.1 q (S.2.1 p0 + 1) p0 + w q), _) = _
      rw [fup_ne hpq]
    rw [hst]
    refine ⟨?_, fun j x hj hx => ?_, fun j x hj hx hn => ?_, fun j x pp hj hx hpp => ?_⟩
    · show S.2.2 = _
      rw [htk, sS_0 (by rw [ho]; exact fun z => by cases z), h1]
    · show fup (fup S.2.1 q (S.2.1 p0 + 1)) p0 (S.2.1 p0 + w q) x = fup S.1 q (S.2.1 p0 + 1) x + _
      rcases hsplit j x hj hx with ⟨ha, hb⟩ | ⟨ha, hb⟩
      · rw [fup_ne (f := S.1) hb]
        by_cases hxp : x = p0
        · rw [hxp, fup_eq, htk, sS_1 ho, h2 ip p0 hip hipp]
          omega
        · rw [fup_ne hxp, fup_ne hb, htk, sS_0 (by rw [ho]; exact fun z => hxp (Option.some.inj z).symm)]
          exact h2 j x ha hx
      · rw [hb, fup_ne (fun z => hpq z.symm), fup_eq, fup_eq, h0]
    · show fup S.1 q (S.2.1 p0 + 1) x = _
      rcases hsplit j x hj hx with ⟨ha, hb⟩ | ⟨ha, hb⟩
      · rw [fup_ne hb]
        exact h3 j x ha hx hn
      · rw [hb, ho] at hn
        cases hn
    · show fup S.1 q (S.2.1 p0 + 1) x = fup S.1 q (S.2.1 p0 + 1) pp + 1 + _
      rcases hsplit j x hj hx with ⟨ha, hb⟩ | ⟨ha, hb⟩
      · obtain ⟨i2, hi2, hi2p⟩ := hH j x pp hx hpp
        rw [fup_ne hb, fup_ne (hne i2 pp (by omega) hi2p)]
        exact h4 j x pp ha hx hpp
      · rw [hb, ho] at hpp
        cases hpp
        rw [hb, fup_eq, fup_ne hpq, ha, h2 ip p0 hip hipp]
        omega
theorem eGo_eq {T : tT} (hnd : (tO T).Nodup) (hH : tH T) {w : Nat → Nat} : ∀ (d i : Nat) (S : eT), (tO T).length - i = d → i ≤ (tO T).length → eInv T w i S → eInv T w (tO T).length (eGo T w ((tO T).drop i) S) := by
  intro d
  induction d with
  | zero =>
    intro i S hd hi h
    rw [List.drop_of_length_le (by omega), eGo]
    have : i = (tO T).length := by omega
    rw [this] at h
    exact h
  | succ d ih =>
    intro i S hd hi h
    obtain ⟨q, hq⟩ : ∃ q, (tO T)[i]? = some q := ⟨_, List.getElem?_eq_getElem (by omega)⟩
    rw [drop_cons hq, eGo]
    exact ih (i + 1) _ (by omega) (by omega) (eInv_step hnd hH hq h)
theorem tEL_eq {T : tT} (hnd : (tO T).Nodup) (hH : tH T) : eInv T (tWt T) (tO T).length (tEL T) :=
  eGo_eq hnd hH (tO T).length 0 _ (by omega) (by omega) ⟨rfl, fun j x hj => absurd hj (by omega), fun j x hj => absurd hj (by omega), fun j x pp hj => absurd hj (by omega)⟩
