/-! PURE: loops in general, frames by a condition, order of small numbers -/
theorem lpE {σ α : Type} {f : Nat → Nat → σ → zM → Option α} {I : Nat → σ → zM → Prop} {R : Option α → Prop} {n : Nat}
    (h0 : ∀ fu s M, I n s M → R (f (fu + 1) n s M))
    (hs : ∀ fu k s M, k < n → I k s M → R (f (fu + 1) k s M) ∨ ∃ s2 M2, f (fu + 1) k s M = f fu (k + 1) s2 M2 ∧ I (k + 1) s2 M2) :
    ∀ (k fu : Nat) (s : σ) (M : zM), k ≤ n → n - k < fu → I k s M → R (f fu k s M) := by
  intro k fu
  induction fu generalizing k with
  | zero =>
    intro s M _ h2 _
    omega
  | succ fu ih =>
    intro s M h1 h2 h3
    by_cases hk : k = n
    · subst hk
      exact h0 fu s M h3
    · rcases hs fu k s M (by omega) h3 with h4 | ⟨s2, M2, h4, h5⟩
      · exact h4
      · rw [h4]
        exact ih (k + 1) s2 M2 (by omega) (by omega) h5
def fq (P : Nat → Nat → Prop) (M M2 : zM) : Prop := ∀ c k, ¬ P c k → M2 c k = M c k
theorem fq_rf {P : Nat → Nat → Prop} {M : zM} : fq P M M := fun _ _ _ => rfl
theorem fq_tr {P : Nat → Nat → Prop} {M M2 M3 : zM} (h : fq P M M2) (h2 : fq P M2 M3) : fq P M M3 := fun c k hc => (h2 c k hc).trans (h c k hc)
theorem fq_zs {P : Nat → Nat → Prop} {M M2 : zM} {c k : Nat} {x : Int32} (h : fq P M M2) (hc : P c k) : fq P M (zs M2 c k x) := by
  intro c1 k1 h1
  rw [zs_at, if_neg]
  · exact h c1 k1 h1
  · rintro ⟨rfl, rfl⟩
    exact h1 hc
theorem fq_mono {P Q : Nat → Nat → Prop} {M M2 : zM} (h : fq P M M2) (h1 : ∀ c k, P c k → Q c k) : fq Q M M2 := fun c k hc => h c k (fun z => hc (h1 c k z))
theorem fq_fr {P : Nat → Nat → Prop} {cs : List Nat} {ps : List (Nat × Nat)} {M M2 : zM} (h : fr cs ps M M2) (h1 : ∀ c k, ¬ P c k → cs.contains c = false ∧ ps.contains (c, k) = false) : fq P M M2 := fun c k hc => h c k (h1 c k hc).1 (h1 c k hc).2
theorem fq_net {P : Nat → Nat → Prop} {M M2 : zM} {n : Nat} {E : List (Nat × Nat)} (h : fq P M M2) (hN : NetX M n E) (h1 : ∀ k, (k < 2 → ¬ P 1 k) ∧ ¬ P 2 k ∧ ¬ P 3 k ∧ ¬ P 4 k) : NetX M2 n E :=
  hN.kept ⟨h 1 0 ((h1 0).1 (by omega)), h 1 1 ((h1 1).1 (by omega))⟩ ⟨funext fun k => h 2 k (h1 k).2.1, funext fun k => h 3 k (h1 k).2.2.1, funext fun k => h 4 k (h1 k).2.2.2⟩
theorem fq_netY {P : Nat → Nat → Prop} {M M2 : zM} {n : Nat} {E : List (Nat × Nat)} (h : fq P M M2) (hN : NetY M n E) (h1 : ∀ k, (k < 2 → ¬ P 0 k) ∧ ¬ P 1 k ∧ ¬ P 2 k) : NetY M2 n E :=
  hN.kept ⟨h 0 0 ((h1 0).1 (by omega)), h 0 1 ((h1 1).1 (by omega))⟩ ⟨funext fun k => h 1 k (h1 k).2.1, funext fun k => h 2 k (h1 k).2.2⟩
theorem fu_ok {d : Nat} (h : d < 5000) : d < FU := h
theorem qlit0 : (0 : Int32) = nI 0 := rfl
theorem qlit1 : (1 : Int32) = nI 1 := rfl
theorem qlit2 : (2 : Int32) = nI 2 := rfl
theorem qlit12 : (12 : Int32) = nI 12 := rfl
theorem qlit26 : (26 : Int32) = nI 26 := rfl
theorem nI_ltm {a : Nat} (h : a < 2 ^ 31) : ¬ nI a < -1 := by
  rw [fa_lt, nI_toInt h]
  have : (-1 : Int32).toInt = -1 := by decide
  omega
theorem nI_lem {a : Nat} (h : a < 2 ^ 31) : ¬ nI a ≤ -1 := by
  rw [fa_le, nI_toInt h]
  have : (-1 : Int32).toInt = -1 := by decide
  omega
theorem m1_le {a : Nat} (h : a < 2 ^ 31) : (-1 : Int32) ≤ nI a := by
  rw [fa_le, nI_toInt h]
  have : (-1 : Int32).toInt = -1 := by decide
  omega
theorem m1_lt {a : Nat} (h : a < 2 ^ 31) : (-1 : Int32) < nI a := by
  rw [fa_lt, nI_toInt h]
  have : (-1 : Int32).toInt = -1 := by decide
  omega
theorem m1_eq {a : Nat} (h : a < 2 ^ 31) : ¬ (-1 : Int32) = nI a := fun z => nI_m1 a h z.symm
/-! the first of the least -/
def am (P : Nat → Bool) (f : Nat → Nat) : Nat → Option Nat
  | 0 => none
  | k + 1 => if P k = true then (match am P f k with
    | none => some k
    | some j => if f k < f j then some k else some j) else am P f k
theorem am_none {P : Nat → Bool} {f : Nat → Nat} : ∀ {n : Nat}, am P f n = none → ∀ q, q < n → P q = false
  | 0, _, q, hq => by omega
  | n + 1, h, q, hq => by
    rw [am] at h
    by_cases hP : P n = true
    · rw [if_pos hP] at h
      cases ha : am P f n with
      | none =>
        rw [ha] at h
        cases h
      | some j =>
        rw [ha] at h
        simp only at h
        split at h <;> cases h
    · rw [if_neg hP] at h
      by_cases hqn : q = n
      · rw [hqn]
        simpa using hP
      · exact am_none h q (by omega)
theorem am_some {P : Nat → Bool} {f : Nat → Nat} : ∀ {n j : Nat}, am P f n = some j → j < n ∧ P j = true ∧ ∀ q, q < n → P q = true → f j < f q ∨ (f j = f q ∧ j ≤ q)
  | 0, j, h => by cases h
  | n + 1, j, h => by
    rw [am] at h
    by_cases hP : P n = true
    · rw [if_pos hP] at h
      cases ha : am P f n with
      | none =>
        rw [ha] at h
        cases Option.some.inj h
        refine ⟨by omega, hP, fun q hq hPq => ?_⟩
        by_cases hqn : q = n
        · rw [hqn]
          omega
        · have := am_none ha q (by omega)
          rw [hPq] at this
          cases this
      | some i =>
        rw [ha] at h
        simp only at h
        obtain ⟨h1, h2, h3⟩ := am_some ha
        by_cases hlt : f n < f i
        · rw [if_pos hlt] at h
          cases Option.some.inj h
          refine ⟨by omega, hP, fun q hq hPq => ?_⟩
          by_cases hqn : q = n
          · rw [hqn]
            omega
          · rcases h3 q (by omega) hPq with h4 | h4 <;> omega
        · rw [if_neg hlt] at h
          cases Option.some.inj h
          refine ⟨by omega, h2, fun q hq hPq => ?_⟩
          by_cases hqn : q = n
          · rw [hqn]
            omega
          · exact h3 q (by omega) hPq
    · rw [if_neg hP] at h
      obtain ⟨h1, h2, h3⟩ := am_some h
      refine ⟨by omega, h2, fun q hq hPq => ?_⟩
      by_cases hqn : q = n
      · rw [hqn] at hPq
        exact absurd hPq hP
      · exact h3 q (by omega) hPq
/-! posts taken one by one, by a key -/
def sel (key : List Nat → Nat → Nat) (n : Nat) : Nat → List Nat
  | 0 => []
  | t + 1 => sel key n t ++ [(am (fun p => decide (¬ p ∈ sel key n t)) (key (sel key n t)) n).getD 0]
theorem sel_len {key : List Nat → Nat → Nat} {n : Nat} : ∀ t, (sel key n t).length = t
  | 0 => rfl
  | t + 1 => by
    rw [sel, List.length_append, sel_len t]
    rfl
theorem sel_ct {key : List Nat → Nat → Nat} {n : Nat} : ∀ t, t ≤ n → (sel key n t).Nodup ∧ (∀ q ∈ sel key n t, q < n) ∧ fb_ct (fun q => decide (q ∈ sel key n t)) n = t ∧ (t < n → ∃ j, am (fun p => decide (¬ p ∈ sel key n t)) (key (sel key n t)) n = some j) := by
  intro t
  have last : ∀ t, t < n → fb_ct (fun q => decide (q ∈ sel key n t)) n = t → ∃ j, am (fun p => decide (¬ p ∈ sel key n t)) (key (sel key n t)) n = some j := by
    intro t ht hc
    cases ha : am (fun p => decide (¬ p ∈ sel key n t)) (key (sel key n t)) n with
    | some j => exact ⟨j, rfl⟩
    | none =>
      have h1 := am_none ha
      have h2 : fb_ct (fun q => decide (q ∈ sel key n t)) n = n := fb_ct_all.mpr (fun q hq => by
        have := h1 q hq
        simpa using this)
      omega
  induction t with
  | zero =>
    intro _
    have h0 : fb_ct (fun q => decide (q ∈ sel key n 0)) n = 0 := fb_ct_zero.mpr (fun q _ => by simp [sel])
    exact ⟨List.nodup_nil, fun q hq => (by cases hq), h0, fun h => last 0 h h0⟩
  | succ t ih =>
    intro ht
    obtain ⟨h1, h2, h3, h4⟩ := ih (by omega)
    obtain ⟨j, hj⟩ := h4 (by omega)
    obtain ⟨j1, j2, -⟩ := am_some hj
    have j3 : ¬ j ∈ sel key n t := by simpa using j2
    have hs : sel key n (t + 1) = sel key n t ++ [j] := by rw [sel, hj]; rfl
    have hc : fb_ct (fun q => decide (q ∈ sel key n (t + 1))) n = t + 1 := by
      have hfun : (fun q => decide (q ∈ sel key n (t + 1))) = fun q => if q = j then true else decide (q ∈ sel key n t) := by
        funext q
        rw [hs]
        by_cases hq : q = j
        · simp [hq]
        · simp [hq]
      have h5 := fb_ct_upd (fun q => decide (q ∈ sel key n t)) true j1
      rw [← hfun] at h5
      simp only [j3, decide_false, Bool.false_eq_true, if_false, if_true] at h5
      omega
    refine ⟨?_, fun q hq => ?_, hc, fun h => last (t + 1) h hc⟩
    · rw [hs, List.nodup_append]
      refine ⟨h1, by simp, fun a ha b hb => ?_⟩
      simp only [List.mem_singleton] at hb
      rw [hb]
      exact fun z => j3 (z ▸ ha)
    · rw [hs] at hq
      rcases List.mem_append.mp hq with h | h
      · exact h2 q h
      · simp only [List.mem_singleton] at h
        omega
