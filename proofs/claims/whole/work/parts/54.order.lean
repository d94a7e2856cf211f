/-! PURE: how posts came in: children of one post, and roots, by numbers; parents ahead of children -/
def tM (T : tT) : Prop := ∀ i j a b : Nat, i < j → (tO T)[i]? = some a → (tO T)[j]? = some b → tP T a = tP T b → a < b
/-- those above others stand ahead of place i -/
def tB (i : Nat) (T : tT) : Prop := ∀ x ∈ tO T, ∀ p, tP T x = some p → ∃ j, j < i ∧ (tO T)[j]? = some p
/-- one above stands ahead of those below -/
def tH (T : tT) : Prop := ∀ j x p : Nat, (tO T)[j]? = some x → tP T x = some p → ∃ i, i < j ∧ (tO T)[i]? = some p
theorem app_get {l : List Nat} {q i a : Nat} (h : (l ++ [q])[i]? = some a) : (i < l.length ∧ l[i]? = some a) ∨ (i = l.length ∧ a = q) := by
  by_cases hi : i < l.length
  · rw [List.getElem?_append_left hi] at h
    exact Or.inl ⟨hi, h⟩
  · rw [List.getElem?_append_right (by omega)] at h
    have hlt := (List.getElem?_eq_some_iff.mp h).1
    simp at hlt
    rw [show i - l.length = 0 by omega] at h
    simp at h
    exact Or.inr ⟨by omega, h.symm⟩
theorem app_left {l s : List Nat} {i a : Nat} (h : l[i]? = some a) : (l ++ s)[i]? = some a := by
  rw [List.getElem?_append_left (List.getElem?_eq_some_iff.mp h).1]
  exact h
theorem tM_step {T T2 : tT} {q : Nat} {o : Option Nat} (hO : tO T2 = tO T ++ [q]) (hP : tP T2 = fup (tP T) q o) (hno : ¬ q ∈ tO T) (hM : tM T) (hlt : ∀ x ∈ tO T, tP T x = o → x < q) : tM T2 := by
  intro i j a b hij ha hb hab
  rw [hO] at ha hb
  rw [hP] at hab
  rcases app_get ha with ⟨hi, ha2⟩ | ⟨hi, ha2⟩
  · have hane : ¬ a = q := fun z => hno (z ▸ List.mem_of_getElem? ha2)
    rw [fup_ne hane] at hab
    rcases app_get hb with ⟨hj, hb2⟩ | ⟨hj, hb2⟩
    · have hbne : ¬ b = q := fun z => hno (z ▸ List.mem_of_getElem? hb2)
      rw [fup_ne hbne] at hab
      exact hM i j a b hij ha2 hb2 hab
    · rw [hb2, fup_eq] at hab
      rw [hb2]
      exact hlt a (List.mem_of_getElem? ha2) hab
  · rcases app_get hb with ⟨hj, hb2⟩ | ⟨hj, hb2⟩ <;> omega
theorem tIn_M {E : List (Nat × Nat)} {p r i : Nat} : ∀ (qs : List Nat) (T : tT), qs.Pairwise (· < ·) → (tO T)[i]? = some p → tM T → tB (i + 1) T → tH T → (∀ x ∈ tO T, tP T x = some p → ∀ q ∈ qs, x < q) →
    tM (tIn E p r qs T) ∧ tB (i + 1) (tIn E p r qs T) ∧ tH (tIn E p r qs T) ∧ ∀ x ∈ tO (tIn E p r qs T), tP (tIn E p r qs T) x = none → x ∈ tO T ∧ tP T x = none
  | [], T, _, _, hM, hB, hH, _ => ⟨hM, hB, hH, fun x hx h => ⟨hx, h⟩⟩
  | q :: qs, T, hs, hp, hM, hB, hH, hlt => by
    rw [tIn]
    have hs2 := List.pairwise_cons.mp hs
    by_cases hc : gA E p q = true ∧ ¬ q ∈ tO T
    · rw [if_pos hc]
      have h := tIn_M (E := E) (p := p) (r := r) (i := i) qs (tAdd E p r q T) hs2.2 (app_left hp) (tM_step rfl rfl hc.2 hM (fun x hx hxp => hlt x hx hxp q List.mem_cons_self)) (fun x hx pp hpp => ?_) (fun j x pp hj hpp => ?_) (fun x hx hxp q2 hq2 => ?_)
      · refine ⟨h.1, h.2.1, h.2.2.1, fun x hx hn => ?_⟩
        obtain ⟨h1, h2⟩ := h.2.2.2 x hx hn
        have h2 : fup (tP T) q (some p) x = none := h2
        by_cases hxq : x = q
        · rw [hxq, fup_eq] at h2
          cases h2
        · rw [fup_ne hxq] at h2
          rcases mem_app1.mp h1 with h3 | h3
          · exact ⟨h3, h2⟩
          · exact absurd h3 hxq
      · have hpp : fup (tP T) q (some p) x = some pp := hpp
        by_cases hxq : x = q
        · rw [hxq, fup_eq] at hpp
          cases hpp
          exact ⟨i, by omega, app_left hp⟩
        · rw [fup_ne hxq] at hpp
          rcases mem_app1.mp hx with h3 | h3
          · obtain ⟨j, hj, hjp⟩ := hB x h3 pp hpp
            exact ⟨j, hj, app_left hjp⟩
          · exact absurd h3 hxq
      · have hpp : fup (tP T) q (some p) x = some pp := hpp
        rcases app_get hj with ⟨hjl, hjx⟩ | ⟨hjl, hjx⟩
        · have hxne : ¬ x = q := fun z => hc.2 (z ▸ List.mem_of_getElem? hjx)
          rw [fup_ne hxne] at hpp
          obtain ⟨i2, h1, h2⟩ := hH j x pp hjx hpp
          exact ⟨i2, h1, app_left h2⟩
        · subst hjx
          rw [fup_eq] at hpp
          cases hpp
          exact ⟨i, by have := (List.getElem?_eq_some_iff.mp hp).1; omega, app_left hp⟩
      · have hxp : fup (tP T) q (some p) x = some p := hxp
        by_cases hxq : x = q
        · rw [hxq]
          exact hs2.1 q2 hq2
        · rw [fup_ne hxq] at hxp
          rcases mem_app1.mp hx with h3 | h3
          · exact hlt x h3 hxp q2 (List.mem_cons_of_mem _ hq2)
          · exact absurd h3 hxq
    · rw [if_neg hc]
      exact tIn_M qs T hs2.2 hp hM hB hH (fun x hx hxp q2 hq2 => hlt x hx hxp q2 (List.mem_cons_of_mem _ hq2))
theorem tOut_M {E : List (Nat × Nat)} {n r : Nat} : ∀ (d i : Nat) (T : tT), tM T → tB i T → tH T → (tO T).Nodup → tW n T → gW n E →
    tM (tOut E n r d i T) ∧ tH (tOut E n r d i T) ∧ ∀ x ∈ tO (tOut E n r d i T), tP (tOut E n r d i T) x = none → x ∈ tO T ∧ tP T x = none
  | 0, _, T, hM, hB, hH, _, _, _ => ⟨hM, hH, fun x hx h => ⟨hx, h⟩⟩
  | d + 1, i, T, hM, hB, hH, hnd, hT, hW => by
    rw [tOut]
    by_cases hi : i < (tO T).length
    · rw [if_pos hi]
      have hp := getD_of hi
      have hnone : ∀ x ∈ tO T, ¬ tP T x = some ((tO T).getD i 0) := by
        intro x hx hxp
        obtain ⟨j, hj, hjp⟩ := hB x hx _ hxp
        obtain ⟨h1, h2⟩ := List.getElem?_eq_some_iff.mp hp
        obtain ⟨h3, h4⟩ := List.getElem?_eq_some_iff.mp hjp
        exact List.pairwise_iff_getElem.mp hnd j i h3 h1 hj (h4.trans h2.symm)
      have h := tIn_M (E := E) (p := (tO T).getD i 0) (r := r) (i := i) (List.range' 0 n) T List.pairwise_lt_range' hp hM (fun x hx pp hpp => by obtain ⟨j, hj, hjp⟩ := hB x hx pp hpp; exact ⟨j, by omega, hjp⟩) hH (fun x hx hxp => absurd hxp (hnone x hx))
      have hT2 := tIn_W hW (p := (tO T).getD i 0) (r := r) (List.range' 0 n) T (fun x hx => range'_lt hx (by omega)) hT
      have h2 := tOut_M (E := E) (n := n) (r := r) d (i + 1) _ h.1 h.2.1 h.2.2.1 hT2.1 hT2 hW
      refine ⟨h2.1, h2.2.1, fun x hx hn => ?_⟩
      obtain ⟨h3, h4⟩ := h2.2.2 x hx hn
      exact h.2.2.2 x h3 h4
    · rw [if_neg hi]
      exact ⟨hM, hH, fun x hx h => ⟨hx, h⟩⟩
theorem tAll_M {E : List (Nat × Nat)} {n : Nat} (hW : gW n E) : ∀ (rs : List Nat) (T : tT), rs.Pairwise (· < ·) → (∀ r ∈ rs, r < n) → tM T → tH T → tW n T → (∀ x ∈ tO T, tP T x = none → ∀ r ∈ rs, x < r) → tM (tAll E n rs T) ∧ tH (tAll E n rs T)
  | [], T, _, _, hM, hH, _, _ => ⟨hM, hH⟩
  | r :: rs, T, hs, hrn, hM, hH, hT, hlt => by
    rw [tAll]
    have hs2 := List.pairwise_cons.mp hs
    by_cases hin : r ∈ tO T
    · rw [if_pos hin]
      exact tAll_M hW rs T hs2.2 (fun x hx => hrn x (List.mem_cons_of_mem _ hx)) hM hH hT (fun x hx hxp q2 hq2 => hlt x hx hxp q2 (List.mem_cons_of_mem _ hq2))
    · rw [if_neg hin]
      have hT1 := tW_new hT (hrn r List.mem_cons_self) hin
      have hM1 : tM (tNew r T) := tM_step rfl rfl hin hM (fun x hx hxp => hlt x hx hxp r List.mem_cons_self)
      have hH1 : tH (tNew r T) := by
        intro j x pp hj hpp
        have hpp : fup (tP T) r none x = some pp := hpp
        rcases app_get hj with ⟨hjl, hjx⟩ | ⟨hjl, hjx⟩
        · have hxne : ¬ x = r := fun z => hin (z ▸ List.mem_of_getElem? hjx)
          rw [fup_ne hxne] at hpp
          obtain ⟨i2, h1, h2⟩ := hH j x pp hjx hpp
          exact ⟨i2, h1, app_left h2⟩
        · subst hjx
          rw [fup_eq] at hpp
          cases hpp
      have hB1 : tB (tO T).length (tNew r T) := by
        intro x hx pp hpp
        have hpp : fup (tP T) r none x = some pp := hpp
        by_cases hxr : x = r
        · rw [hxr, fup_eq] at hpp
          cases hpp
        · rw [fup_ne hxr] at hpp
          rcases mem_app1.mp hx with h3 | h3
          · obtain ⟨j, hj⟩ := List.getElem?_of_mem h3
            obtain ⟨i2, h1, h2⟩ := hH j x pp hj hpp
            exact ⟨i2, (List.getElem?_eq_some_iff.mp h2).1, app_left h2⟩
          · exact absurd h3 hxr
      have h := tOut_M (r := r) (12 - (tO T).length) (tO T).length (tNew r T) hM1 hB1 hH1 hT1.1 hT1 hW
      refine tAll_M hW rs _ hs2.2 (fun x hx => hrn x (List.mem_cons_of_mem _ hx)) h.1 h.2.1 (tOut_W hW _ _ _ hT1) (fun x hx hxn q2 hq2 => ?_)
      obtain ⟨h1, h2⟩ := h.2.2 x hx hxn
      have h2 : fup (tP T) r none x = none := h2
      by_cases hxr : x = r
      · rw [hxr]
        exact hs2.1 q2 hq2
      · rw [fup_ne hxr] at h2
        rcases mem_app1.mp h1 with h3 | h3
        · exact hlt x h3 h2 q2 (List.mem_cons_of_mem _ hq2)
        · exact absurd h3 hxr
theorem gTree_M {n : Nat} {E : List (Nat × Nat)} (hW : gW n E) : tM (gTree n E) ∧ tH (gTree n E) :=
  tAll_M hW _ _ List.pairwise_lt_range' (fun r hr => range'_lt hr (by omega)) (fun i j a b _ h => (by cases h)) (fun j x p h => (by cases h)) (tW_zero n) (fun x hx => (by cases hx))
