/-! PURE: the names of the second kind, in the reference -/
theorem NmY.kept {M M2 : zM} {nm : Nat → List Nat} (h : NmY M nm) (h1 : M2 12 = M 12) (h2 : M2 13 = M 13) : NmY M2 nm := by
  unfold NmY
  rw [h1, h2]
  exact h
theorem upto_len {row : Nat → List Nat} {k n b : Nat} (h : ∀ q, q < n → (row q).length ≤ b) (hk : k ≤ n) (q : Nat) : (upto row k q).length ≤ b := by
  unfold upto
  by_cases hq : q < k
  · rw [if_pos hq]
    exact h q (by omega)
  · rw [if_neg hq]
    exact Nat.zero_le _
theorem fup_len {nm : Nat → List Nat} {q b : Nat} {l : List Nat} (h : ∀ x, x < 12 → (nm x).length ≤ b) (hl : l.length ≤ b) : ∀ x, x < 12 → (fup nm q l x).length ≤ b := fun x hx => by
  by_cases hxq : x = q
  · rw [hxq, fup_eq]
    exact hl
  · rw [fup_ne hxq]
    exact h x hx
theorem row_Y1 {n : Nat} {E : List (Nat × Nat)} (hW : gW n E) {M : zM} (hN : NetY M n E) (hS : tuY M n (gSJ n E)) {nm : Nat → List Nat} (hb : ∀ x, x < 12 → (nm x).length ≤ 12) {q t : Nat} (hq : q < n) (ht : t < n) {l : List Nat} (hl : l.length < 12) (hM : NmY M (fup nm q l)) (k34 : Int32 → Int32 → zM → Option (Unit × zM)) :
    ∃ M2, fMd_findRows_44 k34 FU (nI q) (nI t) 0 M = k34 (nI q) (nI (t + 1)) M2 ∧ NmY M2 (fup nm q (l ++ if pJ n E q t = true then [t] else [])) ∧ fq (fun c _ => c = 12 ∨ c = 13) M M2 := by
  have hn := hW.1.2
  obtain ⟨s, hs⟩ : ∃ s, (gSJ n E)[t]? = some s := ⟨_, List.getElem?_eq_getElem (by rw [gSJ_len]; exact ht)⟩
  have hsn := gSJ_lt (List.mem_of_getElem? hs)
  have hp : pJ n E q t = gA E q s := by
    unfold pJ
    rw [List.getD_eq_getElem?_getD, hs]
    rfl
  have hT : ∀ x, x < n → (M 10 x = nI t ↔ x = s) := fun x hx => by
    rw [hS.2 _ x (gTu_get hx), nI_eq (by have := gTu_lt (E := E) hx; omega) (by omega)]
    constructor
    · intro z
      have := gTu_get (E := E) hx
      rw [z, hs] at this
      exact (Option.some.inj this).symm
    · intro z
      exact gIx_eq gSJ_nd (z ▸ hs)
  refine lpE (f := fun fu k (_ : Unit) M => fMd_findRows_44 k34 fu (nI q) (nI t) (nI k) M) (n := n)
    (I := fun k _ M' => NmY M' (fup nm q (l ++ if s < k ∧ gA E q s = true then [t] else [])) ∧ fq (fun c _ => c = 12 ∨ c = 13) M M')
    (R := fun o => ∃ M2, o = k34 (nI q) (nI (t + 1)) M2 ∧ NmY M2 (fup nm q (l ++ if pJ n E q t = true then [t] else [])) ∧ fq (fun c _ => c = 12 ∨ c = 13) M M2) ?_ ?_ 0 FU () M (by omega) (fu_ok (by omega)) ⟨by rw [if_neg (by omega), List.append_nil]; exact hM, fq_rf⟩
  · rintro fu - M' ⟨h1, h2⟩
    have hN' := fq_netY h2 hN (fun k => by omega)
    refine ⟨M', ?_, ?_, h2⟩
    · rw [fMd_findRows_44, hN'.1, if_pos (nI_le (by omega) (by omega)), nI_1]
    · rw [hp]
      simpa [hsn] using h1
  · rintro fu k - M' hk ⟨h1, h2⟩
    right
    have hN' := fq_netY h2 hN (fun k => by omega)
    rw [fMd_findRows_44, hN'.1, if_neg (nI_ge hk (by omega)), rd_ok (show k < 12 by omega) (by decide), h2 10 k (by omega), nI_1, Md_lineOf_ok hN' hW (show q < 12 by omega) (show k < 12 by omega), cl_some]
    simp only [hT k hk, gX_neg hW]
    by_cases hks : k = s
    · subst hks
      rw [if_neg (not_not_intro rfl)]
      rw [if_neg (by omega), List.append_nil] at h1
      cases hg : gA E q k with
      | false =>
        rw [if_pos rfl]
        exact ⟨(), M', rfl, by rw [if_neg (by simp), List.append_nil]; exact h1, h2⟩
      | true =>
        rw [if_neg (by decide)]
        obtain ⟨M2, a1, a2, a3⟩ := put_ok h1 (fup_len (fun x hx => Nat.le_trans (hb x hx) (by decide)) (by omega)) (a := t) (show q < 12 by omega) (by rw [fup_eq]; omega)
        rw [fup_fup, fup_eq] at a2
        refine ⟨(), M2, by rw [a1, cl_some], ?_, fq_tr h2 (fq_fr a3 (fun c k hc => ⟨by simp; omega, rfl⟩))⟩
        rw [if_pos ⟨by omega, rfl⟩]
        exact a2
    · rw [if_pos hks]
      refine ⟨(), M', rfl, ?_, h2⟩
      have : (s < k + 1 ∧ gA E q s = true) ↔ (s < k ∧ gA E q s = true) := by
        constructor
        · rintro ⟨z1, z2⟩
          exact ⟨by omega, z2⟩
        · rintro ⟨z1, z2⟩
          exact ⟨by omega, z2⟩
      simp only [this]
      exact h1
theorem row_Y {n : Nat} {E : List (Nat × Nat)} (hW : gW n E) {M : zM} (hN : NetY M n E) (hS : tuY M n (gSJ n E)) {nm : Nat → List Nat} (hb : ∀ x, x < 12 → (nm x).length ≤ 12) {q : Nat} (hq : q < n) (hM : NmY M (fup nm q [gTu n E q])) (k6 : Int32 → zM → Option (Unit × zM)) :
    ∃ M2, fMd_findRows_34 k6 FU (nI q) (nI (gTu n E q + 1)) M = k6 (nI (q + 1)) M2 ∧ NmY M2 (fup nm q (rowJ n E q)) ∧ fq (fun c _ => c = 12 ∨ c = 13) M M2 := by
  have hn := hW.1.2
  have ht := gTu_lt (E := E) hq
  have := lpE (f := fun fu k (_ : Unit) M => fMd_findRows_34 k6 fu (nI q) (nI (gTu n E q + 1 + k)) M) (n := n - (gTu n E q + 1))
    (I := fun k _ M' => NmY M' (fup nm q (gTu n E q :: rg1 (pJ n E q) (gTu n E q + 1) k)) ∧ fq (fun c _ => c = 12 ∨ c = 13) M M')
    (R := fun o => ∃ M2, o = k6 (nI (q + 1)) M2 ∧ NmY M2 (fup nm q (rowJ n E q)) ∧ fq (fun c _ => c = 12 ∨ c = 13) M M2) ?_ ?_ 0 FU () M (by omega) (fu_ok (by omega)) ⟨hM, fq_rf⟩
  · exact this
  · rintro fu - M' ⟨h1, h2⟩
    have hN' := fq_netY h2 hN (fun k => by omega)
    refine ⟨M', ?_, h1, h2⟩
    rw [fMd_findRows_34, hN'.1, if_pos (nI_le (by omega) (by omega)), nI_1]
  · rintro fu k - M' hk ⟨h1, h2⟩
    right
    have hN' := fq_netY h2 hN (fun k => by omega)
    have hlen : (gTu n E q :: rg1 (pJ n E q) (gTu n E q + 1) k).length < 12 := by
      have h1 := rg1_len (P := pJ n E q) (a := gTu n E q + 1) k
      show (rg1 _ _ _).length + 1 < 12
      omega
    have hS' : tuY M' n (gSJ n E) := ⟨fun x hx hxs => by rw [h2 10 x (by omega)]; exact hS.1 x hx hxs, fun i x hx => by rw [h2 10 x (by omega)]; exact hS.2 i x hx⟩
    obtain ⟨M2, a1, a2, a3⟩ := row_Y1 hW hN' hS' hb hq (show gTu n E q + 1 + k < n by omega) hlen h1 (fMd_findRows_34 k6 fu)
    refine ⟨(), M2, ?_, a2, fq_tr h2 a3⟩
    rw [fMd_findRows_34, hN'.1, if_neg (nI_ge (by omega) (by omega)), a1]
    rfl
theorem findRows_ok {n : Nat} {E : List (Nat × Nat)} (hW : gW n E) {M : zM} (hN : NetY M n E) (hM : NmY M (fun _ => [])) :
    ∃ M2, fMd_findRows M = some ((), M2) ∧ NmY M2 (upto (rowJ n E) n) ∧ fq (fun c _ => c = 10 ∨ c = 12 ∨ c = 13) M M2 := by
  have hn := hW.1.2
  obtain ⟨M1, t1, t2, t3⟩ := turns_Y hW hN
  have hM1 : NmY M1 (fun _ => []) := fun q hq => by
    rw [t3 12 q (by omega)]
    exact ⟨(hM q hq).1, fun j a hj => (by cases hj)⟩
  rw [fMd_findRows, t1, cl_some]
  have hbnd : ∀ k, k ≤ n → ∀ x, x < 12 → (upto (rowJ n E) k x).length ≤ 12 := fun k hk x _ => upto_len (n := n) (fun q hq => Nat.le_trans (rowJ_len hq) hn) hk x
  refine lpE (f := fun fu k (_ : Unit) M => fMd_findRows_6 fu (nI k) M) (n := n)
    (I := fun k _ M' => NmY M' (upto (rowJ n E) k) ∧ fq (fun c _ => c = 12 ∨ c = 13) M1 M')
    (R := fun o => ∃ M2, o = some ((), M2) ∧ NmY M2 (upto (rowJ n E) n) ∧ fq (fun c _ => c = 10 ∨ c = 12 ∨ c = 13) M M2) ?_ ?_ 0 FU () M1 (by omega) (fu_ok (by omega)) ⟨hM1, fq_rf⟩
  · rintro fu - M' ⟨h1, h2⟩
    have hN' := fq_netY h2 (fq_netY t3 hN (fun k => by omega)) (fun k => by omega)
    refine ⟨M', ?_, h1, fq_tr (fq_mono t3 (fun c k h => by omega)) (fq_mono h2 (fun c k h => by omega))⟩
    rw [fMd_findRows_6, hN'.1, if_pos (nI_le (by omega) (by omega))]
  · rintro fu k - M' hk ⟨h1, h2⟩
    right
    have hN' := fq_netY h2 (fq_netY t3 hN (fun k => by omega)) (fun k => by omega)
    have hMt : ∀ q, q < n → M1 10 q = nI (gTu n E q) := fun q hq => t2.2 _ _ (gTu_get hq)
    obtain ⟨M2, a1, a2, a3⟩ := put_ok h1 (fun x hx => Nat.le_trans (hbnd k (by omega) x hx) (by decide)) (a := gTu n E k) (show k < 12 by omega) (by rw [upto_self]; decide)
    rw [upto_self] at a2
    have h3 : fq (fun c _ => c = 12 ∨ c = 13) M1 M2 := fq_tr h2 (fq_fr a3 (fun c k hc => ⟨by simp; omega, rfl⟩))
    have hS2 : tuY M2 n (gSJ n E) := ⟨fun x hx hxs => by rw [h3 10 x (by omega)]; exact t2.1 x hx hxs, fun i x hx => by rw [h3 10 x (by omega)]; exact t2.2 i x hx⟩
    obtain ⟨M3, b1, b2, b3⟩ := row_Y hW (fq_netY h3 (fq_netY t3 hN (fun k => by omega)) (fun k => by omega)) hS2 (hbnd k (by omega)) hk a2 (fMd_findRows_6 fu)
    rw [upto_succ] at b2
    refine ⟨(), M3, ?_, b2, fq_tr h3 b3⟩
    rw [fMd_findRows_6, hN'.1, if_neg (nI_ge hk (by omega)), rd_ok (show k < 12 by omega) (by decide), h2 10 k (by omega), hMt k hk, a1, cl_some, rd_ok (show k < 12 by omega) (by decide), h3 10 k (by omega), hMt k hk, lt_eq, nI_1, b1]
