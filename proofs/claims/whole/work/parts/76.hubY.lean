/-! PURE: one hub, in the reference; and going out without looking at names -/
def SBY (M : zM) (n : Nat) (S : bS) : Prop := (∀ j q : Nat, S.1[j]? = some q → M 7 j = nI q) ∧ (∀ q ∈ S.1, M 15 q = nI (S.2 q)) ∧ ∀ q, q < n → ¬ q ∈ S.1 → M 15 q = -1
theorem SBY_neg {M : zM} {n : Nat} {S : bS} (hW : bW n S) (hn : n ≤ 12) (h : SBY M n S) {q : Nat} (hq : q < n) : (0 : Int32) ≤ M 15 q ↔ q ∈ S.1 := by
  by_cases hm : q ∈ S.1
  · have := hW.dist hm
    rw [h.2.1 q hm]
    simp only [hm, iff_true]
    exact nI_ge0 (by omega)
  · rw [h.2.2 q hq hm]
    simp only [hm, iff_false]
    decide
theorem SBY_add {M : zM} {n : Nat} {S : bS} {p q : Nat} (h : SBY M n S) (hp : p ∈ S.1) (hno : ¬ q ∈ S.1) : SBY (zs (zs M 15 q (nI (S.2 p + 1))) 7 S.1.length (nI q)) n (bAdd p q S) := by
  refine ⟨fun j x hx => ?_, fun x hx => ?_, fun x hx hxs => ?_⟩
  · rcases app_get hx with ⟨h1, h2⟩ | ⟨h1, h2⟩
    · rw [zs_nk (by omega), zs_nc (by decide)]
      exact h.1 j x h2
    · rw [h1, h2, zs_eq]
  · rw [zs_nc (by decide)]
    show _ = nI (fup S.2 q (S.2 p + 1) x)
    by_cases hxq : x = q
    · rw [hxq, zs_eq, fup_eq]
    · rw [zs_nk hxq, fup_ne hxq]
      rcases mem_app1.mp hx with h1 | h1
      · exact h.2.1 x h1
      · exact absurd h1 hxq
  · have hxs := not_or.mp (fun z => hxs (mem_app1.mpr z))
    rw [zs_nc (by decide), zs_nk hxs.2]
    exact h.2.2 x hx hxs.1
theorem goIn_Y {n : Nat} {E : List (Nat × Nat)} (hW : gW n E) {h i p : Nat} {v2 : Int32} {M : zM} (hN : NetY M n E) {S : bS} (hS : bW n S) (hp : S.1[i]? = some p) (hB : SBY M n S) (k41 : Int32 → Int32 → Int32 → zM → Option (Unit × zM)) :
    ∃ M2, fMd_goFrom_111 k41 FU (nI h) v2 (nI S.1.length) (nI p) 0 M = k41 (nI h) v2 (nI (bIn E p (List.range' 0 n) S).1.length) M2 ∧ SBY M2 n (bIn E p (List.range' 0 n) S) ∧ fq (fun c _ => c = 7 ∨ c = 15) M M2 := by
  have hn := hW.1.2
  generalize hT : bIn E p (List.range' 0 n) S = T
  refine lpE (f := fun fu k (S : bS) M => fMd_goFrom_111 k41 fu (nI h) v2 (nI S.1.length) (nI p) (nI k) M) (n := n)
    (I := fun k S M' => bIn E p (List.range' k (n - k)) S = T ∧ bW n S ∧ S.1[i]? = some p ∧ SBY M' n S ∧ fq (fun c _ => c = 7 ∨ c = 15) M M')
    (R := fun o => ∃ M2, o = k41 (nI h) v2 (nI T.1.length) M2 ∧ SBY M2 n T ∧ fq (fun c _ => c = 7 ∨ c = 15) M M2) ?_ ?_ 0 FU S M (by omega) (fu_ok (by omega)) ⟨hT, hS, hp, hB, fq_rf⟩
  · rintro fu S M' ⟨h1, h2, h3, h4, h5⟩
    rw [Nat.sub_self] at h1
    have h1 : S = T := h1
    have hN' := fq_netY h5 hN (fun k => by omega)
    subst h1
    refine ⟨M', ?_, h4, h5⟩
    rw [fMd_goFrom_111, hN'.1, if_pos (nI_le (by omega) (by omega))]
  · rintro fu k S M' hk ⟨h1, h2, h3, h4, h5⟩
    right
    have hN' := fq_netY h5 hN (fun k => by omega)
    have hpm : p ∈ S.1 := List.mem_of_getElem? h3
    have hpn := h2.2.1 p hpm
    have hlen := h2.len
    obtain ⟨d, hd⟩ : ∃ d, n - k = d + 1 := ⟨n - k - 1, by omega⟩
    rw [hd, range'_cons, bIn, show d = n - (k + 1) by omega] at h1
    have hneg := SBY_neg h2 hn h4 hk
    rw [fMd_goFrom_111, hN'.1, if_neg (nI_ge hk (by omega)), rd_ok (show k < 12 by omega) (by decide), Md_lineOf_ok hN' hW (show p < 12 by omega) (show k < 12 by omega), cl_some, nI_1, nI_1]
    simp only [hneg, gX_neg hW]
    by_cases hkS : k ∈ S.1
    · rw [if_pos hkS]
      rw [if_neg (fun z => z.2 hkS)] at h1
      exact ⟨S, M', rfl, h1, h2, h3, h4, h5⟩
    · rw [if_neg hkS]
      cases hg : gA E p k with
      | false =>
        rw [if_pos rfl]
        rw [if_neg (by simp [hg])] at h1
        exact ⟨S, M', rfl, h1, h2, h3, h4, h5⟩
      | true =>
        rw [if_neg (by decide)]
        rw [if_pos ⟨hg, hkS⟩] at h1
        have hW2 := bW_add h2 h3 hk hkS
        have hl2 := hW2.len
        have hl3 : S.1.length + 1 ≤ n := by
          have : (bAdd p k S).1.length = S.1.length + 1 := by simp [bAdd]
          omega
        rw [rd_ok (show p < 12 by omega) (by decide), h4.2.1 p hpm, nI_1, wr_ok (show k < 12 by omega) (by decide), wr_ok (show S.1.length < 12 by omega) (by decide)]
        refine ⟨bAdd p k S, zs (zs M' 15 k (nI (S.2 p + 1))) 7 S.1.length (nI k), ?_, h1, hW2, bE_get (bE_add hkS) h3, SBY_add h4 hpm hkS, fq_zs (fq_zs h5 (by omega)) (by omega)⟩
        show _ = fMd_goFrom_111 k41 fu (nI h) _ (nI (S.1 ++ [k]).length) _ _ _
        rw [List.length_append]
        rfl
theorem NmY.fq {M M2 : zM} {nm : Nat → List Nat} {P : Nat → Nat → Prop} (h : NmY M nm) (hf : fq P M M2) (h1 : ∀ k, ¬ P 12 k ∧ ¬ P 13 k) : NmY M2 nm := h.kept (funext fun k => hf 12 k (h1 k).1) (funext fun k => hf 13 k (h1 k).2)
theorem goFrom_Y {n : Nat} {E : List (Nat × Nat)} (hW : gW n E) {M : zM} (hN : NetY M n E) {ps : Nat → List (Nat × Nat)} {r h : Nat} (hr : r < 12) (hh : h < n) (hR : okR ps r) (hM : NmY M (fun q => flat (ps q))) (h11 : M 11 h = nI r) :
    ∃ M2, fMd_goFrom (nI h) M = some ((), M2) ∧ NmY M2 (fun q => flat (psN n E ps r h q)) ∧ fq (fun c _ => c = 7 ∨ c = 15 ∨ c = 12 ∨ c = 13) M M2 := by
  have hn := hW.1.2
  rw [fMd_goFrom]
  refine lpE (f := fun fu k (_ : Unit) M => fMd_goFrom_2 fu (nI h) (nI k) M) (n := n)
    (I := fun k _ M' => (∀ q, q < k → M' 15 q = -1) ∧ fq (fun c _ => c = 15) M M')
    (R := fun o => ∃ M2, o = some ((), M2) ∧ NmY M2 (fun q => flat (psN n E ps r h q)) ∧ fq (fun c _ => c = 7 ∨ c = 15 ∨ c = 12 ∨ c = 13) M M2) ?_ ?_ 0 FU () M (by omega) (fu_ok (by omega)) ⟨fun q h => by omega, fq_rf⟩
  · rintro fu - M0 ⟨g1, g2⟩
    have hN0 := fq_netY g2 hN (fun k => by omega)
    rw [fMd_goFrom_2, hN0.1, if_pos (nI_le (Nat.le_refl _) (by omega)), wr_ok (show h < 12 by omega) (by decide), qlit0, wr_ok (show 0 < 12 by decide) (by decide)]
    have f0 : fq (fun c _ => c = 7 ∨ c = 15 ∨ c = 12 ∨ c = 13) M (zs (zs M0 15 h (nI 0)) 7 0 (nI h)) := fq_zs (fq_zs (fq_mono g2 (fun c k h => by omega)) (by omega)) (by omega)
    have hM1 : NmY (zs (zs M0 15 h (nI 0)) 7 0 (nI h)) (fun q => flat (ps q)) := hM.fq (P := fun c _ => c = 7 ∨ c = 15) (fq_zs (fq_zs (fq_mono g2 (fun c k h => by omega)) (by omega)) (by omega)) (fun k => by omega)
    have hB1 : SBY (zs (zs M0 15 h (nI 0)) 7 0 (nI h)) n ([h], fun _ => 0) := by
      refine ⟨fun j q hq => ?_, fun q hq => ?_, fun q hq hqs => ?_⟩
      · cases j with
        | zero =>
          cases Option.some.inj hq
          rw [zs_eq]
        | succ j => cases hq
      · have : q = h := by simpa using hq
        rw [this, zs_nc (by decide), zs_eq]
      · have : ¬ q = h := by simpa using hqs
        rw [zs_nc (by decide), zs_nk this]
        exact g1 q hq
    refine lpE (f := fun fu k (S : bS) M => fMd_goFrom_41 fu (nI h) (nI k) (nI S.1.length) M) (n := 12)
      (I := fun k S M' => bOut E n (prH ps h) (12 - k) k S = bfs E n (prH ps h) h ∧ bW n S ∧ k ≤ S.1.length ∧ SBY M' n S ∧ NmY M' (fun q => flat (cur ps r (prH ps h) S k q)) ∧ fq (fun c _ => c = 7 ∨ c = 15 ∨ c = 12 ∨ c = 13) M M')
      (R := fun o => ∃ M2, o = some ((), M2) ∧ NmY M2 (fun q => flat (psN n E ps r h q)) ∧ fq (fun c _ => c = 7 ∨ c = 15 ∨ c = 12 ∨ c = 13) M M2) ?_ ?_ 0 FU ([h], fun _ => 0) _ (by omega) (fu_ok (by omega)) ⟨rfl, bW_one hh, by simp, hB1, by rw [cur_0]; exact hM1, f0⟩
    · rintro fu S M' ⟨h1, h2, h3, h4, h5, h6⟩
      have hlen := h2.len
      rw [Nat.sub_self] at h1
      have h1 : S = _ := h1
      refine ⟨M', ?_, ?_, h6⟩
      · rw [fMd_goFrom_41, if_pos (nI_le (by omega) (by omega))]
      · unfold psN
        rw [← h1, show S.1.length = 12 by omega]
        exact h5
    · rintro fu k S M' hk ⟨h1, h2, h3, h4, h5, h6⟩
      have hlen := h2.len
      have hN' := fq_netY h6 hN (fun k => by omega)
      obtain ⟨d, hd⟩ : ∃ d, 12 - k = d + 1 := ⟨12 - k - 1, by omega⟩
      rw [hd, bOut, show d = 12 - (k + 1) by omega] at h1
      by_cases hkl : k < S.1.length
      · right
        rw [if_pos hkl] at h1
        have hp := getD_of hkl
        generalize S.1.getD k 0 = p at h1 hp
        have hpm := List.mem_of_getElem? hp
        have hpn := h2.2.1 p hpm
        have hcur : ∀ q, okP (cur ps r (prH ps h) S k q) := fun q => okP_of (r := r) (by omega) (cur_ok hn hR h2 q).2
        have hcl : ∀ q, q < 12 → (cur ps r (prH ps h) S k q).length ≤ 13 := fun q _ => by have := (cur_ok (pr := prH ps h) (i := k) hn hR h2 q).1; omega
        obtain ⟨o, d1, d2, d3⟩ := farOf_Y h5 hcl (show h < 12 by omega) (show p < 12 by omega) (hcur h) (hcur p)
        have d2 := isF_cong d2 (fun m => frP_comm)
        rw [cur_at h2.1 hp] at d2
        have d4 := prH_of (isF_cong d2 (cur_far hR)) (S.2 p)
        have hstep := cur_step (ps := ps) (r := r) (pr := prH ps h) h2.1 hp
        have go : prH ps h p (S.2 p) = false → ∃ s2 M2, fMd_goFrom_83 (fMd_goFrom_41 fu) (nI h) (nI (k + 1)) (nI S.1.length) (nI p) M' = fMd_goFrom_41 fu (nI h) (nI (k + 1)) (nI s2.1.length) M2 ∧
            bOut E n (prH ps h) (12 - (k + 1)) (k + 1) s2 = bfs E n (prH ps h) h ∧ bW n s2 ∧ k + 1 ≤ s2.1.length ∧ SBY M2 n s2 ∧ NmY M2 (fun q => flat (cur ps r (prH ps h) s2 (k + 1) q)) ∧ fq (fun c _ => c = 7 ∨ c = 15 ∨ c = 12 ∨ c = 13) M M2 := by
          intro hpr
          rw [if_neg (by rw [hpr]; decide)] at hstep h1
          have hle : (ps p).length ≤ r := (hR p).1
          have hb26 : ∀ q, q < 12 → (flat (cur ps r (prH ps h) S k q)).length ≤ 26 := fun q hq => by rw [flat_len]; have := hcl q hq; omega
          obtain ⟨M2, a1, a2, a3⟩ := put_ok h5 hb26 (a := r) (show p < 12 by omega) (by simp only [cur_at h2.1 hp, flat_len]; omega)
          obtain ⟨M3, b1, b2, b3⟩ := put_ok a2 (fup_len hb26 (by rw [List.length_append]; simp only [cur_at h2.1 hp, flat_len, List.length_singleton]; omega)) (a := S.2 p) (show p < 12 by omega) (by rw [fup_eq, List.length_append]; simp only [cur_at h2.1 hp, flat_len, List.length_singleton]; omega)
          have f2 : fq (fun c _ => c = 7 ∨ c = 15 ∨ c = 12 ∨ c = 13) M M2 := fq_tr h6 (fq_fr a3 (fun c k hc => ⟨by simp; omega, rfl⟩))
          have f3 : fq (fun c _ => c = 7 ∨ c = 15 ∨ c = 12 ∨ c = 13) M M3 := fq_tr f2 (fq_fr b3 (fun c k hc => ⟨by simp; omega, rfl⟩))
          have hk1 : ∀ c kk, ¬ (c = 12 ∨ c = 13) → M2 c kk = M' c kk := fun c kk hcc => a3 c kk (by simp; omega) rfl
          have hk2 : ∀ c kk, ¬ (c = 12 ∨ c = 13) → M3 c kk = M' c kk := fun c kk hcc => (b3 c kk (by simp; omega) rfl).trans (hk1 c kk hcc)
          have hB3 : SBY M3 n S := ⟨fun j q hq => by rw [hk2 7 j (by omega)]; exact h4.1 j q hq, fun q hq => by rw [hk2 15 q (by omega)]; exact h4.2.1 q hq, fun q hq hqs => by rw [hk2 15 q (by omega)]; exact h4.2.2 q hq hqs⟩
          obtain ⟨M4, c1, c2, c3⟩ := goIn_Y hW (h := h) (v2 := nI (k + 1)) (fq_netY f3 hN (fun k => by omega)) h2 hp hB3 (fMd_goFrom_41 fu)
          have hbw := bIn_W (E := E) (List.range' 0 n) S (fun x hx => range'_lt hx (by omega)) h2 hp
          have hl2 : S.1.length ≤ (bIn E p (List.range' 0 n) S).1.length := by
            obtain ⟨⟨s, hs⟩, -⟩ := hbw.2
            rw [hs, List.length_append]
            omega
          refine ⟨bIn E p (List.range' 0 n) S, M4, ?_, h1, hbw.1, by omega, c2, ?_, fq_tr f3 (fq_mono c3 (fun c k h => by omega))⟩
          · rw [fMd_goFrom_83, rd_ok (show h < 12 by omega) (by decide), h6 11 h (by omega), h11, a1, cl_some, rd_ok (show p < 12 by omega) (by decide), hk1 15 p (by omega), h4.2.1 p hpm, b1, cl_some, c1]
          · rw [cur_ext hbw.2 (by omega), hstep, flat_fup]
            rw [fup_fup, fup_eq] at b2
            have e3 : flat (ps p ++ [(r, S.2 p)]) = flat (cur ps r (prH ps h) S k p) ++ [r] ++ [S.2 p] := by
              rw [flat_app, cur_at h2.1 hp, List.append_assoc]
              rfl
            rw [e3]
            exact b2.fq c3 (fun k => by omega)
        rw [fMd_goFrom_41, if_neg (nI_ge hkl (by omega)), rd_ok hk (by decide), h4.1 k p hp, d1, cl_some, nI_1]
        cases o with
        | none =>
          rw [if_pos (show oI none < 0 by decide)]
          exact go d4
        | some k2 =>
          have hk2 := d3 k2 rfl
          have hdist := h2.dist hpm
          simp only [prD] at d4
          rw [if_neg (show ¬ oI (some k2) < 0 from nI_nlt0 (by omega)), rd_ok (show p < 12 by omega) (by decide), h4.2.1 p hpm]
          by_cases hlt : S.2 p < k2
          · rw [if_neg (show ¬ oI (some k2) ≤ nI (S.2 p) from nI_ge hlt (by omega))]
            exact go (by rw [d4]; exact decide_eq_false (by omega))
          · rw [if_pos (show oI (some k2) ≤ nI (S.2 p) from nI_le (by omega) (by omega))]
            have hpr : prH ps h p (S.2 p) = true := by rw [d4]; exact decide_eq_true (by omega)
            rw [if_pos hpr] at hstep h1
            exact ⟨S, M', rfl, h1, h2, by omega, h4, by rw [hstep]; exact h5, h6⟩
      · left
        rw [if_neg hkl] at h1
        refine ⟨M', ?_, ?_, h6⟩
        · rw [fMd_goFrom_41, if_pos (nI_le (by omega) (by omega))]
        · unfold psN
          rw [← h1, show S.1.length = k by omega]
          exact h5
  · rintro fu k - M' hk ⟨h1, h2⟩
    right
    have hN' := fq_netY h2 hN (fun k => by omega)
    refine ⟨(), zs M' 15 k (-1), ?_, fun q hq => ?_, fq_zs h2 rfl⟩
    · rw [fMd_goFrom_2, hN'.1, if_neg (nI_ge hk (by omega)), wr_ok (show k < 12 by omega) (by decide), nI_1]
    · by_cases hqk : q = k
      · rw [hqk, zs_eq]
      · rw [zs_nk hqk]
        exact h1 q (by omega)
