/-! PURE: going out from a hub, as a list and distances -/
theorem isF_ex (P : Nat → Prop) : ∃ o, isF P o := by
  by_cases h : ∃ m, P m
  · obtain ⟨k, h1, h2⟩ := pk_least P h
    exact ⟨some k, h1, fun j hj => Nat.le_of_not_lt (fun z => h2 j z hj)⟩
  · exact ⟨none, fun m hm => h ⟨m, hm⟩⟩
noncomputable def farO (A B : List (Nat × Nat)) : Option Nat := Classical.choose (isF_ex (frP A B))
theorem farO_is (A B : List (Nat × Nat)) : isF (frP A B) (farO A B) := Classical.choose_spec (isF_ex (frP A B))
abbrev bS : Type := List Nat × (Nat → Nat)
def bAdd (p q : Nat) (S : bS) : bS := (S.1 ++ [q], fup S.2 q (S.2 p + 1))
def bIn (E : List (Nat × Nat)) (p : Nat) : List Nat → bS → bS
  | [], S => S
  | q :: qs, S => bIn E p qs (if gA E p q = true ∧ ¬ q ∈ S.1 then bAdd p q S else S)
def bOut (E : List (Nat × Nat)) (n : Nat) (pr : Nat → Nat → Bool) : Nat → Nat → bS → bS
  | 0, _, S => S
  | d + 1, i, S => if i < S.1.length then bOut E n pr d (i + 1) (if pr (S.1.getD i 0) (S.2 (S.1.getD i 0)) = true then S else bIn E (S.1.getD i 0) (List.range' 0 n) S) else S
def bfs (E : List (Nat × Nat)) (n : Nat) (pr : Nat → Nat → Bool) (h : Nat) : bS := bOut E n pr 12 0 ([h], fun _ => 0)
def bW (n : Nat) (S : bS) : Prop := S.1.Nodup ∧ (∀ q ∈ S.1, q < n) ∧ ∀ j q : Nat, S.1[j]? = some q → S.2 q ≤ j
theorem bW_add {n : Nat} {S : bS} (h : bW n S) {i p q : Nat} (hp : S.1[i]? = some p) (hq : q < n) (hno : ¬ q ∈ S.1) : bW n (bAdd p q S) := by
  have hil := (List.getElem?_eq_some_iff.mp hp).1
  refine ⟨?_, fun x hx => ?_, fun j x hx => ?_⟩
  · show (S.1 ++ [q]).Nodup
    rw [List.nodup_append]
    refine ⟨h.1, by simp, fun a ha b hb => ?_⟩
    simp only [List.mem_singleton] at hb
    rw [hb]
    exact fun z => hno (z ▸ ha)
  · rcases mem_app1.mp hx with h1 | h1
    · exact h.2.1 x h1
    · rw [h1]
      exact hq
  · show fup S.2 q (S.2 p + 1) x ≤ j
    rcases app_get hx with ⟨h1, h2⟩ | ⟨h1, h2⟩
    · rw [fup_ne (show ¬ x = q from fun z => hno (z ▸ List.mem_of_getElem? h2))]
      exact h.2.2 j x h2
    · have := h.2.2 i p hp
      rw [h2, fup_eq, h1]
      omega
theorem bW.len {n : Nat} {S : bS} (h : bW n S) : S.1.length ≤ n := nodup_len h.1 h.2.1
theorem bW.dist {n : Nat} {S : bS} (h : bW n S) {q : Nat} (hq : q ∈ S.1) : S.2 q < n := by
  obtain ⟨j, hj⟩ := List.mem_iff_getElem?.mp hq
  have h1 := h.2.2 j q hj
  have h2 := (List.getElem?_eq_some_iff.mp hj).1
  have h3 := h.len
  omega
/-- a later state: the same, and more -/
def bE (S S2 : bS) : Prop := (∃ s, S2.1 = S.1 ++ s) ∧ ∀ q ∈ S.1, S2.2 q = S.2 q
theorem bE_rf {S : bS} : bE S S := ⟨⟨[], by simp⟩, fun _ _ => rfl⟩
theorem bE_add {p q : Nat} {S : bS} (hno : ¬ q ∈ S.1) : bE S (bAdd p q S) := ⟨⟨[q], rfl⟩, fun x hx => fup_ne (fun z => hno (z ▸ hx))⟩
theorem bE_tr {S S2 S3 : bS} (h : bE S S2) (h2 : bE S2 S3) : bE S S3 := by
  obtain ⟨⟨s, hs⟩, h3⟩ := h
  obtain ⟨⟨t, ht⟩, h4⟩ := h2
  refine ⟨⟨s ++ t, by rw [ht, hs, List.append_assoc]⟩, fun q hq => ?_⟩
  rw [h4 q (by rw [hs]; exact List.mem_append_left _ hq), h3 q hq]
theorem bE_get {S S2 : bS} (h : bE S S2) {i p : Nat} (hp : S.1[i]? = some p) : S2.1[i]? = some p := by
  obtain ⟨⟨s, hs⟩, -⟩ := h
  rw [hs, List.getElem?_append_left (List.getElem?_eq_some_iff.mp hp).1]
  exact hp
theorem bE_take {S S2 : bS} (h : bE S S2) {i : Nat} (hi : i ≤ S.1.length) : S2.1.take i = S.1.take i := by
  obtain ⟨⟨s, hs⟩, -⟩ := h
  rw [hs, List.take_append_of_le_length hi]
theorem bIn_W {n : Nat} {E : List (Nat × Nat)} {i p : Nat} : ∀ (qs : List Nat) (S : bS), (∀ q ∈ qs, q < n) → bW n S → S.1[i]? = some p → bW n (bIn E p qs S) ∧ bE S (bIn E p qs S)
  | [], S, _, h, _ => ⟨h, bE_rf⟩
  | q :: qs, S, hq, h, hp => by
    rw [bIn]
    by_cases hc : gA E p q = true ∧ ¬ q ∈ S.1
    · rw [if_pos hc]
      have h1 := bIn_W (E := E) qs (bAdd p q S) (fun x hx => hq x (List.mem_cons_of_mem _ hx)) (bW_add h hp (hq q List.mem_cons_self) hc.2) (bE_get (bE_add hc.2) hp)
      exact ⟨h1.1, bE_tr (bE_add hc.2) h1.2⟩
    · rw [if_neg hc]
      exact bIn_W qs S (fun x hx => hq x (List.mem_cons_of_mem _ hx)) h hp
theorem bW_one {n h : Nat} (hh : h < n) : bW n ([h], fun _ => 0) := ⟨by simp, fun q hq => by simp at hq; omega, fun j q _ => Nat.zero_le _⟩
/-! the class -/
def SB (M : zM) (S : bS) : Prop := (∀ j q : Nat, S.1[j]? = some q → M 21 j = nI q) ∧ ∀ q ∈ S.1, M 22 q = nI (S.2 q)
def cmM (S : bS) : Nat := mkM (fun q => decide (q ∈ S.1)) 12
theorem cmM_lt (S : bS) : cmM S < 2 ^ 12 := mkM_lt _ _
theorem cmM_add {p q : Nat} {S : bS} (hq : q < 12) : nI (cmM S) ||| zshl 1 (nI q) = nI (cmM (bAdd p q S)) := by
  rw [zshl_pow (by omega), fa_or]
  congr 1
  apply mkM_of (or_lt (mkM_lt _ _) (pow_ltk hq))
  intro j hj
  rw [Nat.testBit_or, testBit_pow, mkM_bit]
  show _ = decide (j ∈ S.1 ++ [q])
  by_cases hjq : j = q
  · simp [hjq]
  · have : ¬ q = j := fun z => hjq z.symm
    simp [hj, hjq, this]
theorem SB_add {M : zM} {S : bS} {p q : Nat} (h : SB M S) (hp : p ∈ S.1) (hno : ¬ q ∈ S.1) : SB (zs (zs M 22 q (nI (S.2 p + 1))) 21 S.1.length (nI q)) (bAdd p q S) := by
  refine ⟨fun j x hx => ?_, fun x hx => ?_⟩
  · rcases app_get hx with ⟨h1, h2⟩ | ⟨h1, h2⟩
    · rw [zs_nk (by omega), zs_nc (by decide)]
      exact h.1 j x h2
    · rw [h1, h2, zs_eq]
  · rw [zs_nc (by decide)]
    show _ = nI (fup S.2 q (S.2 p + 1) x)
    by_cases hxq : x = q
    · rw [hxq, zs_eq, fup_eq]
    · rw [zs_nk hxq, fup_ne hxq]
      rcases mem_app1.mp hx with h1 | h1
      · exact h.2 x h1
      · exact absurd h1 hxq
theorem spreadIn_X {n : Nat} {E : List (Nat × Nat)} (hW : gW n E) {c0 h i p : Nat} (hc : 23 ≤ c0) {M : zM} (hN : NetX M n E) {S : bS} (hS : bW n S) (hp : S.1[i]? = some p) (hB : SB M S) (k24 : Nat → Int32 → Int32 → Int32 → Int32 → zM → Option (Unit × zM)) :
    ∃ M2, fLabels_spread_110 k24 FU c0 (nI h) (nI (cmM S)) (nI S.1.length) (nI i) (nI p) 0 M = k24 c0 (nI h) (nI (cmM (bIn E p (List.range' 0 n) S))) (nI (bIn E p (List.range' 0 n) S).1.length) (nI (i + 1)) M2 ∧ SB M2 (bIn E p (List.range' 0 n) S) ∧ fq (fun c _ => c = 21 ∨ c = 22) M M2 := by
  have hn := hW.1.2
  generalize hT : bIn E p (List.range' 0 n) S = T
  refine lpE (f := fun fu k (S : bS) M => fLabels_spread_110 k24 fu c0 (nI h) (nI (cmM S)) (nI S.1.length) (nI i) (nI p) (nI k) M) (n := n)
    (I := fun k S M' => bIn E p (List.range' k (n - k)) S = T ∧ bW n S ∧ S.1[i]? = some p ∧ SB M' S ∧ fq (fun c _ => c = 21 ∨ c = 22) M M')
    (R := fun o => ∃ M2, o = k24 c0 (nI h) (nI (cmM T)) (nI T.1.length) (nI (i + 1)) M2 ∧ SB M2 T ∧ fq (fun c _ => c = 21 ∨ c = 22) M M2) ?_ ?_ 0 FU S M (by omega) (fu_ok (by omega)) ⟨hT, hS, hp, hB, fq_rf⟩
  · rintro fu S M' ⟨h1, h2, h3, h4, h5⟩
    rw [Nat.sub_self] at h1
    have h1 : S = T := h1
    have hN' := fq_net h5 hN (fun k => by omega)
    subst h1
    refine ⟨M', ?_, h4, h5⟩
    rw [fLabels_spread_110, hN'.1, if_pos (nI_le (by omega) (by omega)), nI_1]
  · rintro fu k S M' hk ⟨h1, h2, h3, h4, h5⟩
    right
    have hN' := fq_net h5 hN (fun k => by omega)
    have hpm : p ∈ S.1 := List.mem_of_getElem? h3
    have hpn := h2.2.1 p hpm
    have hlen := h2.len
    obtain ⟨d, hd⟩ : ∃ d, n - k = d + 1 := ⟨n - k - 1, by omega⟩
    rw [hd, range'_cons, bIn, show d = n - (k + 1) by omega] at h1
    have hbit : zshr (nI (cmM S)) (nI k) &&& 1 = bI (decide (k ∈ S.1)) := by
      rw [zbit (Nat.lt_trans (cmM_lt S) (by decide)) (by omega)]
      unfold cmM
      rw [mkM_bit]
      simp [show k < 12 by omega]
    rw [fLabels_spread_110, hN'.1, if_neg (nI_ge hk (by omega)), joins_ok hN' (show p < 12 by omega) (show k < 12 by omega), cl_some, hbit, nI_1, nI_1]
    cases hg : gA E p k with
    | false =>
      rw [bI_f, if_pos rfl]
      rw [if_neg (by simp [hg])] at h1
      exact ⟨S, M', rfl, h1, h2, h3, h4, h5⟩
    | true =>
      rw [bI_t, if_neg (by decide)]
      by_cases hkS : k ∈ S.1
      · rw [if_pos (by simp [hkS, bI])]
        rw [if_neg (fun z => z.2 hkS)] at h1
        exact ⟨S, M', rfl, h1, h2, h3, h4, h5⟩
      · rw [if_neg (by simp [hkS, bI])]
        rw [if_pos ⟨hg, hkS⟩] at h1
        have hW2 := bW_add h2 h3 hk hkS
        have hl2 := hW2.len
        have hl3 : S.1.length + 1 ≤ n := by
          have : (bAdd p k S).1.length = S.1.length + 1 := by simp [bAdd]
          omega
        rw [lt_eq, rd_ok (show p < 12 by omega) (by decide), h4.2 p hpm, nI_1, wr_ok (show k < 12 by omega) (by decide), wr_ok (show S.1.length < 12 by omega) (by decide), cmM_add (p := p) (show k < 12 by omega)]
        refine ⟨bAdd p k S, zs (zs M' 22 k (nI (S.2 p + 1))) 21 S.1.length (nI k), ?_, h1, hW2, bE_get (bE_add hkS) h3, SB_add h4 hpm hkS, fq_zs (fq_zs h5 (by omega)) (by omega)⟩
        show _ = fLabels_spread_110 k24 fu c0 (nI h) _ (nI (S.1 ++ [k]).length) _ _ _ _
        rw [List.length_append]
        rfl
