/-! PURE: one hub, in the class -/
def prD : Option Nat → Nat → Bool
  | none, _ => false
  | some k, w => decide (k ≤ w)
noncomputable def prH (ps : Nat → List (Nat × Nat)) (h : Nat) (p w : Nat) : Bool := prD (farO (ps p) (ps h)) w
def cur (ps : Nat → List (Nat × Nat)) (r : Nat) (pr : Nat → Nat → Bool) (S : bS) (i p : Nat) : List (Nat × Nat) := if p ∈ S.1.take i ∧ pr p (S.2 p) = false then ps p ++ [(r, S.2 p)] else ps p
noncomputable def psN (n : Nat) (E : List (Nat × Nat)) (ps : Nat → List (Nat × Nat)) (r h : Nat) (p : Nat) : List (Nat × Nat) := cur ps r (prH ps h) (bfs E n (prH ps h) h) (bfs E n (prH ps h) h).1.length p
/-- names before hub r -/
def okR (ps : Nat → List (Nat × Nat)) (r : Nat) : Prop := ∀ p, (ps p).length ≤ r ∧ ∀ e ∈ ps p, e.1 < r ∧ e.2 < 12
theorem cur_0 {ps : Nat → List (Nat × Nat)} {r : Nat} {pr : Nat → Nat → Bool} {S : bS} : cur ps r pr S 0 = ps := by
  funext p
  unfold cur
  rw [if_neg (by simp)]
theorem cur_ext {ps : Nat → List (Nat × Nat)} {r : Nat} {pr : Nat → Nat → Bool} {S S2 : bS} {i : Nat} (h : bE S S2) (hi : i ≤ S.1.length) : cur ps r pr S2 i = cur ps r pr S i := by
  funext p
  unfold cur
  rw [bE_take h hi]
  by_cases hp : p ∈ S.1.take i
  · rw [h.2 p (List.mem_of_mem_take hp)]
  · rw [if_neg (fun z => hp z.1), if_neg (fun z => hp z.1)]
theorem take_succ_mem {l : List Nat} {i p : Nat} (h : l[i]? = some p) (x : Nat) : x ∈ l.take (i + 1) ↔ x ∈ l.take i ∨ x = p := by
  have hil := (List.getElem?_eq_some_iff.mp h).1
  rw [List.take_succ_eq_append_getElem hil, mem_app1]
  have : l[i] = p := (List.getElem?_eq_some_iff.mp h).2
  rw [this]
theorem not_take {l : List Nat} (hl : l.Nodup) {i p : Nat} (h : l[i]? = some p) : ¬ p ∈ l.take i := fun z => by
  obtain ⟨j, hj, hjp⟩ := mem_take_ix z
  have := nd_ix hl hjp h
  omega
theorem cur_step {ps : Nat → List (Nat × Nat)} {r : Nat} {pr : Nat → Nat → Bool} {S : bS} {i p : Nat} (hS : S.1.Nodup) (h : S.1[i]? = some p) : cur ps r pr S (i + 1) = if pr p (S.2 p) = true then cur ps r pr S i else fup (cur ps r pr S i) p (ps p ++ [(r, S.2 p)]) := by
  funext x
  have hno := not_take hS h
  by_cases hpr : pr p (S.2 p) = true
  · rw [if_pos hpr]
    unfold cur
    by_cases hx : x = p
    · rw [hx, if_neg (fun z => by rw [hpr] at z; cases z.2), if_neg (fun z => hno z.1)]
    · simp only [take_succ_mem h, hx, or_false]
  · rw [if_neg hpr]
    by_cases hx : x = p
    · rw [hx, fup_eq]
      unfold cur
      rw [if_pos ⟨(take_succ_mem h p).mpr (Or.inr rfl), by simpa using hpr⟩]
    · rw [fup_ne hx]
      unfold cur
      simp only [take_succ_mem h, hx, or_false]
theorem cur_at {ps : Nat → List (Nat × Nat)} {r : Nat} {pr : Nat → Nat → Bool} {S : bS} {i p : Nat} (hS : S.1.Nodup) (h : S.1[i]? = some p) : cur ps r pr S i p = ps p := if_neg (fun z => not_take hS h z.1)
theorem cur_far {ps : Nat → List (Nat × Nat)} {r : Nat} {pr : Nat → Nat → Bool} {S : bS} {i p h : Nat} (hR : okR ps r) (m : Nat) : frP (ps p) (cur ps r pr S i h) m ↔ frP (ps p) (ps h) m := by
  unfold cur
  by_cases hc : h ∈ S.1.take i ∧ pr h (S.2 h) = false
  · rw [if_pos hc]
    constructor
    · rintro ⟨ea, eb, h1, h2, h3, h4⟩
      rcases mem_app1.mp h2 with h5 | h5
      · exact ⟨ea, eb, h1, h5, h3, h4⟩
      · have := ((hR p).2 ea h1).1
        rw [h5] at h3
        simp only at h3
        omega
    · rintro ⟨ea, eb, h1, h2, h3, h4⟩
      exact ⟨ea, eb, h1, mem_app1.mpr (Or.inl h2), h3, h4⟩
  · rw [if_neg hc]
theorem cur_ok {n : Nat} {ps : Nat → List (Nat × Nat)} {r : Nat} {pr : Nat → Nat → Bool} {S : bS} {i : Nat} (hn : n ≤ 12) (hR : okR ps r) (hS : bW n S) (p : Nat) : (cur ps r pr S i p).length ≤ r + 1 ∧ ∀ e ∈ cur ps r pr S i p, e.1 < r + 1 ∧ e.2 < 12 := by
  have hp := hR p
  unfold cur
  by_cases hc : p ∈ S.1.take i ∧ pr p (S.2 p) = false
  · rw [if_pos hc]
    refine ⟨by rw [List.length_append]; simp; omega, fun e he => ?_⟩
    rcases mem_app1.mp he with h5 | h5
    · have := hp.2 e h5
      omega
    · rw [h5]
      have := hS.dist (List.mem_of_mem_take hc.1)
      exact ⟨by simp, by show S.2 p < 12; omega⟩
  · rw [if_neg hc]
    exact ⟨by omega, fun e he => by have := hp.2 e he; omega⟩
theorem okP_of {A : List (Nat × Nat)} {r : Nat} (hr : r ≤ 12) (h : ∀ e ∈ A, e.1 < r + 1 ∧ e.2 < 12) : okP A := fun e he => by have := h e he; omega
theorem flat_fup {ps : Nat → List (Nat × Nat)} {p : Nat} {l : List (Nat × Nat)} : (fun q => flat (fup ps p l q)) = fup (fun q => flat (ps q)) p (flat l) := by
  funext q
  by_cases h : q = p
  · rw [h, fup_eq, fup_eq]
  · rw [fup_ne h, fup_ne h]
theorem prH_of {ps : Nat → List (Nat × Nat)} {h p : Nat} {o : Option Nat} (ho : isF (frP (ps p) (ps h)) o) (w : Nat) : prH ps h p w = prD o w := by
  have : farO (ps p) (ps h) = o := isF_one (farO_is _ _) ho
  unfold prH
  rw [this]
theorem spread_X {n : Nat} {E : List (Nat × Nat)} (hW : gW n E) {c0 : Nat} (hc : 23 ≤ c0) (hz : zln (c0 + 2) = 12 * 24) {M : zM} (hN : NetX M n E) {ps : Nat → List (Nat × Nat)} {r h : Nat} (hr : r < 12) (hh : h < n) (hR : okR ps r) (hM : NmX M c0 24 (fun q => flat (ps q))) (h19 : M 19 h = nI r) :
    ∃ M2, fLabels_spread c0 (nI h) M = some ((), M2) ∧ NmX M2 c0 24 (fun q => flat (psN n E ps r h q)) ∧ fq (fun c _ => c = 21 ∨ c = 22 ∨ c = c0 + 1 ∨ c = c0 + 2) M M2 := by
  have hn := hW.1.2
  have e0 : ∀ M', fLabels_spread_24 FU c0 (nI h) (nI (cmM ([h], fun _ => 0))) (nI 1) 0 M' = fLabels_spread_24 FU c0 (nI h) (zshl 1 (nI h)) 1 0 M' := fun M' => by
    have : nI (cmM ([h], fun _ => 0)) = zshl 1 (nI h) := by
      rw [zshl_pow (by omega)]
      congr 1
      symm
      apply mkM_of (pow_ltk (by omega))
      intro j hj
      rw [testBit_pow]
      by_cases z : j = h
      · simp [z]
      · have : ¬ h = j := fun y => z y.symm
        simp [z, this]
    rw [this]
    rfl
  rw [fLabels_spread, lt_eq, qlit0, wr_ok (show 0 < 12 by decide) (by decide), wr_ok (show h < 12 by omega) (by decide), ← qlit0, ← e0]
  have hM1 : NmX (zs (zs M 21 0 (nI h)) 22 h 0) c0 24 (fun q => flat (ps q)) := ⟨by rw [zs_nc (by omega), zs_nc (by omega)]; exact hM.1, fun q hq => by
    rw [zs_nc (by omega), zs_nc (by omega)]
    refine ⟨(hM.2 q hq).1, (hM.2 q hq).2.1, fun j a hj => ?_⟩
    rw [zs_nc (by omega), zs_nc (by omega)]
    exact (hM.2 q hq).2.2 j a hj⟩
  have hB1 : SB (zs (zs M 21 0 (nI h)) 22 h 0) ([h], fun _ => 0) := by
    refine ⟨fun j q hq => ?_, fun q hq => ?_⟩
    · cases j with
      | zero =>
        cases Option.some.inj hq
        rw [zs_nc (by decide), zs_eq]
      | succ j => cases hq
    · have : q = h := by simpa using hq
      rw [this, zs_eq]
      rfl
  refine lpE (f := fun fu k (S : bS) M => fLabels_spread_24 fu c0 (nI h) (nI (cmM S)) (nI S.1.length) (nI k) M) (n := 12)
    (I := fun k S M' => bOut E n (prH ps h) (12 - k) k S = bfs E n (prH ps h) h ∧ bW n S ∧ k ≤ S.1.length ∧ SB M' S ∧ NmX M' c0 24 (fun q => flat (cur ps r (prH ps h) S k q)) ∧ fq (fun c _ => c = 21 ∨ c = 22 ∨ c = c0 + 1 ∨ c = c0 + 2) M M')
    (R := fun o => ∃ M2, o = some ((), M2) ∧ NmX M2 c0 24 (fun q => flat (psN n E ps r h q)) ∧ fq (fun c _ => c = 21 ∨ c = 22 ∨ c = c0 + 1 ∨ c = c0 + 2) M M2) ?_ ?_ 0 FU ([h], fun _ => 0) _ (by omega) (fu_ok (by omega)) ⟨rfl, bW_one hh, by simp, hB1, by rw [cur_0]; exact hM1, fq_zs (fq_zs fq_rf (by omega)) (by omega)⟩
  · rintro fu S M' ⟨h1, h2, h3, h4, h5, h6⟩
    have hlen := h2.len
    rw [Nat.sub_self] at h1
    have h1 : S = _ := h1
    refine ⟨M', ?_, ?_, h6⟩
    · rw [fLabels_spread_24, if_pos (nI_le (by omega) (by omega))]
    · unfold psN
      rw [← h1, show S.1.length = 12 by omega]
      exact h5
  · rintro fu k S M' hk ⟨h1, h2, h3, h4, h5, h6⟩
    have hlen := h2.len
    have hN' := fq_net h6 hN (fun k => by omega)
    obtain ⟨d, hd⟩ : ∃ d, 12 - k = d + 1 := ⟨12 - k - 1, by omega⟩
    rw [hd, bOut, show d = 12 - (k + 1) by omega] at h1
    by_cases hkl : k < S.1.length
    · right
      rw [if_pos hkl] at h1
      have hp := getD_of hkl
      generalize S.1.getD k 0 = p at h1 hp
      have hpm := List.mem_of_getElem? hp
      have hpn := h2.2.1 p hpm
      have hcur : ∀ q, okP (cur ps r (prH ps h) S k q) := fun q => okP_of (r := r) (by omega) (cur_ok hn hR h2 q).2
      obtain ⟨o, d1, d2, d3⟩ := distance_X h5 (by decide) hz (show p < 12 by omega) (show h < 12 by omega) (hcur p) (hcur h)
      rw [cur_at h2.1 hp] at d2
      have d4 := prH_of (isF_cong d2 (cur_far hR)) (S.2 p)
      have hstep := cur_step (ps := ps) (r := r) (pr := prH ps h) h2.1 hp
      have go : prH ps h p (S.2 p) = false → ∃ s2 M2, fLabels_spread_82 (fLabels_spread_24 fu) c0 (nI h) (nI (cmM S)) (nI S.1.length) (nI k) (nI p) M' = fLabels_spread_24 fu c0 (nI h) (nI (cmM s2)) (nI s2.1.length) (nI (k + 1)) M2 ∧
          bOut E n (prH ps h) (12 - (k + 1)) (k + 1) s2 = bfs E n (prH ps h) h ∧ bW n s2 ∧ k + 1 ≤ s2.1.length ∧ SB M2 s2 ∧ NmX M2 c0 24 (fun q => flat (cur ps r (prH ps h) s2 (k + 1) q)) ∧ fq (fun c _ => c = 21 ∨ c = 22 ∨ c = c0 + 1 ∨ c = c0 + 2) M M2 := by
        intro hpr
        rw [if_neg (by rw [hpr]; decide)] at hstep h1
        have hle : (ps p).length ≤ r := (hR p).1
        obtain ⟨M2, a1, a2, a3⟩ := append_ok h5 (by decide) hz (a := r) (show p < 12 by omega) (by simp only [cur_at h2.1 hp, flat_len]; omega)
        obtain ⟨M3, b1, b2, b3⟩ := append_ok a2 (by decide) hz (a := S.2 p) (show p < 12 by omega) (by rw [fup_eq, List.length_append]; simp only [cur_at h2.1 hp, flat_len, List.length_singleton]; omega)
        have f2 : fq (fun c _ => c = 21 ∨ c = 22 ∨ c = c0 + 1 ∨ c = c0 + 2) M M2 := fq_tr h6 (fq_fr a3 (fun c k hc => ⟨by simp; omega, rfl⟩))
        have f3 : fq (fun c _ => c = 21 ∨ c = 22 ∨ c = c0 + 1 ∨ c = c0 + 2) M M3 := fq_tr f2 (fq_fr b3 (fun c k hc => ⟨by simp; omega, rfl⟩))
        have hk1 : ∀ c kk, ¬ (c = c0 + 1 ∨ c = c0 + 2) → M2 c kk = M' c kk := fun c kk hcc => a3 c kk (by simp; omega) rfl
        have hk2 : ∀ c kk, ¬ (c = c0 + 1 ∨ c = c0 + 2) → M3 c kk = M' c kk := fun c kk hcc => (b3 c kk (by simp; omega) rfl).trans (hk1 c kk hcc)
        have hB3 : SB M3 S := ⟨fun j q hq => by rw [hk2 21 j (by omega)]; exact h4.1 j q hq, fun q hq => by rw [hk2 22 q (by omega)]; exact h4.2 q hq⟩
        obtain ⟨M4, c1, c2, c3⟩ := spreadIn_X hW (h := h) hc (fq_net f3 hN (fun k => by omega)) h2 hp hB3 (fLabels_spread_24 fu)
        have hbw := bIn_W (E := E) (List.range' 0 n) S (fun x hx => range'_lt hx (by omega)) h2 hp
        have hl2 : S.1.length ≤ (bIn E p (List.range' 0 n) S).1.length := by
          obtain ⟨⟨s, hs⟩, -⟩ := hbw.2
          rw [hs, List.length_append]
          omega
        refine ⟨bIn E p (List.range' 0 n) S, M4, ?_, h1, hbw.1, by omega, c2, ?_, fq_tr f3 (fq_mono c3 (fun c k h => by omega))⟩
        · rw [fLabels_spread_82, rd_ok (show h < 12 by omega) (by decide), h6 19 h (by omega), h19, a1, cl_some, rd_ok (show p < 12 by omega) (by decide), hk1 22 p (by omega), h4.2 p hpm, b1, cl_some, c1]
        · rw [cur_ext hbw.2 (by omega), hstep, flat_fup]
          rw [fup_fup, fup_eq] at b2
          have e3 : flat (ps p ++ [(r, S.2 p)]) = flat (cur ps r (prH ps h) S k p) ++ [r] ++ [S.2 p] := by
            rw [flat_app, cur_at h2.1 hp, List.append_assoc]
            rfl
          rw [e3]
          exact ⟨(c3 c0 1 (by omega)).trans b2.1, fun q hq => by
            rw [c3 (c0 + 1) q (by omega)]
            refine ⟨(b2.2 q hq).1, (b2.2 q hq).2.1, fun j a hj => ?_⟩
            rw [c3 (c0 + 2) _ (by omega)]
            exact (b2.2 q hq).2.2 j a hj⟩
      rw [fLabels_spread_24, if_neg (nI_ge hkl (by omega)), hN'.1, if_neg (nI_ge (by omega) (by omega)), rd_ok hk (by decide), h4.1 k p hp, d1, cl_some]
      cases o with
      | none =>
        rw [if_pos (show oI none = -1 from rfl)]
        exact go d4
      | some k2 =>
        have hk2 := d3 k2 rfl
        have hdist := h2.dist hpm
        simp only [prD] at d4
        rw [if_neg (show ¬ oI (some k2) = -1 from nI_m1 k2 (by omega)), rd_ok (show p < 12 by omega) (by decide), h4.2 p hpm]
        by_cases hlt : S.2 p < k2
        · rw [if_pos (show nI (S.2 p) < oI (some k2) from nI_lt hlt (by omega))]
          exact go (by rw [d4]; exact decide_eq_false (by omega))
        · rw [if_neg (show ¬ nI (S.2 p) < oI (some k2) from nI_nlt (by omega) (by omega)), nI_1]
          have hpr : prH ps h p (S.2 p) = true := by rw [d4]; exact decide_eq_true (by omega)
          rw [if_pos hpr] at hstep h1
          exact ⟨S, M', rfl, h1, h2, by omega, h4, by rw [hstep]; exact h5, h6⟩
    · left
      rw [if_neg hkl] at h1
      refine ⟨M', ?_, ?_, h6⟩
      · rw [fLabels_spread_24, if_pos (nI_le (by omega) (by omega))]
      · unfold psN
        rw [← h1, show S.1.length = k by omega]
        exact h5
