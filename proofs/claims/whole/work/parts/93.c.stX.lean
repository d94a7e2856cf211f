/-! PURE: the stretch, in the class -/
section stX
variable {n : Nat} {E : List (Nat × Nat)}
def stB (ss : sT) : Prop := ss.1 ≤ 32 ∧ 1 ≤ ss.2.1 ∧ ss.2.1 < 2000 ∧ (ss.2.2.1 = none → ss.1 = 0 ∧ ss.2.1 = 1) ∧ ∀ k0, ss.2.2.1 = some k0 → k0 < 100
theorem isD_lt (hW : gW n E) {a b d : Nat} (ha : a < n) (hd : isD E a b d) : d < n := by
  obtain ⟨z1, z2⟩ := bfs_all hW ha d b hd.1
  have hw := (bfs_Z hW ha (fun _ _ => false)).2.2.1 b z1
  have hb := (bOut_W (n := n) (E := E) (pr := fun _ _ => false) 12 0 _ (bW_one ha)).dist z1
  rcases Nat.lt_or_ge ((bfs E n (fun _ _ => false) a).2 b) d with z | z
  · exact absurd hw (hd.2 _ z)
  · have : (bfs E n (fun _ _ => false) a).2 b < n := hb
    omega
theorem gLen_le {a b L : Nat} (h : gLen n E a b = some L) : L ≤ 32 := by
  unfold gLen at h
  split at h
  · rw [← Option.some.inj h]
    exact popc_lt
  · cases h
theorem stO_B (hW : gW n E) {a b : Nat} (ha : a < n) (hb : b < n) {ss : sT} (h : stB ss) : stB (stO n E a b ss) := by
  have hn := hW.1.2
  unfold stO
  by_cases hab : a = b
  · rw [if_pos hab]
    exact h
  · rw [if_neg hab]
    cases hL : gLen n E a b with
    | none => exact h
    | some L =>
      simp only
      obtain ⟨d, d1, d2, -⟩ := gLen_dst hW ha hb hL
      have hd := isD_lt hW ha d1
      have hd0 : 1 ≤ d := by
        rcases Nat.eq_zero_or_pos d with z | z
        · rw [z] at d1
          exact absurd d1.1 hab
        · exact z
      split
      · exact ⟨gLen_le hL, by show 1 ≤ gDst n E a b; omega, by show gDst n E a b < 2000; omega, fun z => (by cases z), fun k0 hk => by have := Option.some.inj (show some a = some k0 from hk); omega⟩
      · exact h
def stM (M : zM) (ss : sT) : Prop := M 48 3 = nI ss.1 ∧ M 48 4 = nI ss.2.1 ∧ M 48 5 = oI ss.2.2.1 ∧ M 48 6 = oI ss.2.2.2
abbrev zP : Nat → Nat → Prop := fun c k => (5 ≤ c ∧ c < 14) ∨ (c = 48 ∧ 3 ≤ k ∧ k ≤ 6)
theorem offer_X {M : zM} {ss : sT} (hM : stM M ss) (hB : stB ss) {a b L D : Nat} (hL : L ≤ 32) (hD : D < 2000) : ∃ M2, fParcels_offer (nI a) (nI b) (nI L) (nI D) M = some ((), M2) ∧ stM M2 (if ss.1 * D < L * ss.2.1 then (L, D, some a, some b) else ss) ∧ fq (fun c k => c = 48 ∧ 3 ≤ k ∧ k ≤ 6) M M2 := by
  obtain ⟨b1, b2, b3, -⟩ := hB
  have h1 : ss.1 * D ≤ 32 * 2000 := Nat.mul_le_mul b1 (by omega)
  have h2 : L * ss.2.1 ≤ 32 * 2000 := Nat.mul_le_mul hL (by omega)
  rw [fParcels_offer, hM.1, hM.2.1, nI_times, nI_times]
  by_cases hlt : ss.1 * D < L * ss.2.1
  · rw [if_neg (nI_ge hlt (by omega)), if_pos hlt]
    refine ⟨zs (zs (zs (zs M 48 3 (nI L)) 48 4 (nI D)) 48 5 (nI a)) 48 6 (nI b), rfl, ⟨?_, ?_, ?_, zs_eq⟩, fq_zs (fq_zs (fq_zs (fq_zs fq_rf (by omega)) (by omega)) (by omega)) (by omega)⟩
    · rw [zs_nk (by decide), zs_nk (by decide), zs_nk (by decide), zs_eq]
    · rw [zs_nk (by decide), zs_nk (by decide), zs_eq]
    · rw [zs_nk (by decide), zs_eq]
      rfl
  · rw [if_pos (nI_le (by omega) (by omega)), if_neg hlt]
    exact ⟨M, rfl, hM, fq_rf⟩
theorem stM_fq {M M2 : zM} {ss : sT} {P : Nat → Nat → Prop} (h : stM M ss) (hf : fq P M M2) (h1 : ∀ k, ¬ P 48 k) : stM M2 ss := by
  unfold stM
  rw [hf 48 3 (h1 3), hf 48 4 (h1 4), hf 48 5 (h1 5), hf 48 6 (h1 6)]
  exact h
theorem find35_X {M : zM} (hW : gW n E) (hN : NetX M n E) (hC : CX M n E) (hNm : NmX M 29 24 (fun q => flat (psF n E n q))) {ss : sT} (hM : stM M ss) (hB : stB ss) {a : Nat} (ha : a < n) (k22 : Nat → Int32 → zM → Option (Unit × zM)) :
    ∃ M2, fParcels_findStretch_35 k22 FU 29 (nI a) 0 M = k22 29 (nI (a + 1)) M2 ∧ NetX M2 n E ∧ CX M2 n E ∧ stM M2 (stI n E a (List.range' 0 n) ss) ∧ stB (stI n E a (List.range' 0 n) ss) ∧ fq zP M M2 := by
  have hn := hW.1.2
  generalize hT : stI n E a (List.range' 0 n) ss = tgt
  refine lpE (f := fun fu b (_ : sT) M => fParcels_findStretch_35 k22 fu 29 (nI a) (nI b) M) (n := n)
    (I := fun b s2 M' => stI n E a (List.range' b (n - b)) s2 = tgt ∧ stB s2 ∧ stM M' s2 ∧ NetX M' n E ∧ CX M' n E ∧ fq zP M M')
    (R := fun o => ∃ M2, o = k22 29 (nI (a + 1)) M2 ∧ NetX M2 n E ∧ CX M2 n E ∧ stM M2 tgt ∧ stB tgt ∧ fq zP M M2) ?_ ?_ 0 FU ss M (by omega) (fu_ok (by omega)) ⟨hT, hB, hM, hN, hC, fq_rf⟩
  · rintro fu s2 M' ⟨h1, h2, h3, h4, h5, h6⟩
    rw [Nat.sub_self] at h1
    have h1 : s2 = tgt := h1
    rw [h1] at h2 h3
    refine ⟨M', ?_, h4, h5, h3, h2, h6⟩
    rw [fParcels_findStretch_35, h4.1, if_pos (nI_le (by omega) (by omega)), nI_1]
  · rintro fu b s2 M' hb ⟨h1, h2, h3, h4, h5, h6⟩
    right
    obtain ⟨dd, hdd⟩ : ∃ dd, n - b = dd + 1 := ⟨n - b - 1, by omega⟩
    rw [hdd, range'_cons, stI, show dd = n - (b + 1) by omega] at h1
    obtain ⟨M1, a1, a2, a3, a4⟩ := length_X hW h4 h5 ha hb
    have f1 : fq zP M M1 := fq_tr h6 (fq_mono a4 (fun c k h => by omega))
    have hS1 := stM_fq h3 a4 (fun k => by omega)
    rw [fParcels_findStretch_35, h4.1, if_neg (nI_ge hb (by omega)), a1, cl_some, nI_1]
    unfold stO at h1
    by_cases hab : a = b
    · rw [if_pos (by rw [hab])]
      rw [if_pos hab] at h1
      exact ⟨s2, M1, rfl, h1, h2, hS1, a3, a2, f1⟩
    · rw [if_neg (fun z => hab ((nI_eq (by omega) (by omega)).mp z))]
      rw [if_neg hab] at h1
      have hOB := stO_B hW ha hb h2
      unfold stO at hOB
      rw [if_neg hab] at hOB
      cases hL : gLen n E a b with
      | none =>
        rw [hL] at h1
        rw [if_pos (show oI none = -1 from rfl)]
        exact ⟨s2, M1, rfl, h1, h2, hS1, a3, a2, f1⟩
      | some L =>
        rw [hL] at h1 hOB
        simp only at h1 hOB
        have hL32 := gLen_le hL
        rw [if_neg (show ¬ oI (some L) = -1 from nI_m1 L (by omega))]
        obtain ⟨d, d1, d2, d3⟩ := gLen_dst hW ha hb hL
        have hd := isD_lt hW ha d1
        have hNm1 : NmX M1 29 24 (fun q => flat (psF n E n q)) := hNm.fq f1 (fun k => by omega)
        have okq : ∀ q, okP (psF n E n q) := fun q e he => by have := (psF_ok (E := E) hn n (Nat.le_refl _) q).2 e he; omega
        obtain ⟨o, e1, e2, -⟩ := distance_X hNm1 (by decide) rfl (show a < 12 by omega) (show b < 12 by omega) (okq a) (okq b)
        have ho : o = some d := by
          rw [← d3]
          exact isF_one e2 (farO_is _ _)
        obtain ⟨M3, g1, g2, g3⟩ := offer_X hS1 h2 (a := a) (b := b) hL32 (show d < 2000 by omega)
        rw [← d2] at g2
        refine ⟨_, M3, ?_, h1, hOB, g2, fq_net g3 a3 (fun k => by omega), a2.fq g3 (fun c k _ _ => by omega) (by omega), fq_tr f1 (fq_mono g3 (fun c k h => by omega))⟩
        rw [e1, cl_some, ho]
        show (cl (fParcels_offer (nI a) (nI b) (nI L) (nI d) M1) fun _ M5 => _) = _
        rw [g1, cl_some]
theorem find_X {M : zM} (hW : gW n E) (hN : NetX M n E) (hC : CX M n E) (hNm : NmX M 29 24 (fun q => flat (psF n E n q))) : ∃ M2, fParcels_findStretch 29 M = some ((), M2) ∧ NetX M2 n E ∧ CX M2 n E ∧ stM M2 (gSt n E) ∧ stB (gSt n E) ∧ fq zP M M2 := by
  have hn := hW.1.2
  have f0 : fq (fun c k => c = 48 ∧ 3 ≤ k ∧ k ≤ 6) M (zs (zs (zs (zs M 48 3 0) 48 4 1) 48 5 (-1)) 48 6 (-1)) := fq_zs (fq_zs (fq_zs (fq_zs fq_rf (by omega)) (by omega)) (by omega)) (by omega)
  have hM0 : stM (zs (zs (zs (zs M 48 3 0) 48 4 1) 48 5 (-1)) 48 6 (-1)) (0, 1, none, none) := by
    refine ⟨?_, ?_, ?_, zs_eq⟩
    · rw [zs_nk (by decide), zs_nk (by decide), zs_nk (by decide), zs_eq]
      rfl
    · rw [zs_nk (by decide), zs_nk (by decide), zs_eq]
      rfl
    · rw [zs_nk (by decide), zs_eq]
      rfl
  rw [fParcels_findStretch, wf_eq, wf_eq, wf_eq, wf_eq]
  refine lpE (f := fun fu a (_ : sT) M => fParcels_findStretch_22 fu 29 (nI a) M) (n := n)
    (I := fun a s2 M' => stA n E (List.range' a (n - a)) s2 = gSt n E ∧ stB s2 ∧ stM M' s2 ∧ NetX M' n E ∧ CX M' n E ∧ fq zP M M')
    (R := fun o => ∃ M2, o = some ((), M2) ∧ NetX M2 n E ∧ CX M2 n E ∧ stM M2 (gSt n E) ∧ stB (gSt n E) ∧ fq zP M M2) ?_ ?_ 0 FU (0, 1, none, none) _ (by omega) (fu_ok (by omega)) ⟨rfl, ⟨by decide, by decide, by decide, fun _ => ⟨rfl, rfl⟩, fun k0 hk => (by cases hk)⟩, hM0, fq_net f0 hN (fun k => by omega), hC.fq f0 (fun c k _ _ => by omega) (by omega), fq_mono f0 (fun c k h => by omega)⟩
  · rintro fu s2 M' ⟨h1, h2, h3, h4, h5, h6⟩
    rw [Nat.sub_self] at h1
    have h1 : s2 = gSt n E := h1
    rw [h1] at h2 h3
    refine ⟨M', ?_, h4, h5, h3, h2, h6⟩
    rw [fParcels_findStretch_22, h4.1, if_pos (nI_le (by omega) (by omega))]
  · rintro fu a s2 M' ha ⟨h1, h2, h3, h4, h5, h6⟩
    right
    obtain ⟨dd, hdd⟩ : ∃ dd, n - a = dd + 1 := ⟨n - a - 1, by omega⟩
    rw [hdd, range'_cons, stA, show dd = n - (a + 1) by omega] at h1
    obtain ⟨M2, e1, e2, e3, e4, e5, e6⟩ := find35_X hW h4 h5 (hNm.fq h6 (fun k => by omega)) h3 h2 ha (fParcels_findStretch_22 fu)
    refine ⟨_, M2, ?_, h1, e5, e4, e2, e3, fq_tr h6 e6⟩
    rw [fParcels_findStretch_22, h4.1, if_neg (nI_ge ha (by omega)), e1]
/-! the fraction made small -/
theorem cop_div {u l d : Nat} (hg : 0 < Nat.gcd u l) (h1 : (u / Nat.gcd u l) % d = 0) (h2 : (l / Nat.gcd u l) % d = 0) : d ≤ 1 := by
  obtain ⟨x, hx⟩ := Nat.dvd_of_mod_eq_zero h1
  obtain ⟨y, hy⟩ := Nat.dvd_of_mod_eq_zero h2
  have e1 : u = Nat.gcd u l * (d * x) := by
    have := Nat.mul_div_cancel' (Nat.gcd_dvd_left u l)
    rw [hx] at this
    exact this.symm
  have e2 : l = Nat.gcd u l * (d * y) := by
    have := Nat.mul_div_cancel' (Nat.gcd_dvd_right u l)
    rw [hy] at this
    exact this.symm
  have h3 : Nat.gcd u l * d ∣ Nat.gcd u l := Nat.dvd_gcd ⟨x, by rw [Nat.mul_assoc]; exact e1⟩ ⟨y, by rw [Nat.mul_assoc]; exact e2⟩
  have h4 := Nat.le_of_dvd hg h3
  rcases Nat.lt_or_ge 1 d with z | z
  · have := Nat.mul_le_mul_left (Nat.gcd u l) (show 2 ≤ d by omega)
    omega
  · exact z
theorem reduce_X {M : zM} {ss : sT} (hM : stM M ss) (hB : stB ss) : ∃ M2, fParcels_reduce M = some ((), M2) ∧ stM M2 (ss.1 / Nat.gcd ss.1 ss.2.1, ss.2.1 / Nat.gcd ss.1 ss.2.1, ss.2.2.1, ss.2.2.2) ∧ fq (fun c k => c = 48 ∧ 3 ≤ k ∧ k ≤ 6) M M2 := by
  obtain ⟨b1, b2, b3, -⟩ := hB
  have hg : 0 < Nat.gcd ss.1 ss.2.1 := Nat.gcd_pos_of_pos_right _ (by omega)
  have hgl : Nat.gcd ss.1 ss.2.1 ≤ ss.2.1 := Nat.gcd_le_right _ (by omega)
  rw [fParcels_reduce, lt_eq, hM.2.1]
  have hu : ss.1 / Nat.gcd ss.1 ss.2.1 ≤ ss.1 := Nat.div_le_self _ _
  have hl : ss.2.1 / Nat.gcd ss.1 ss.2.1 ≤ ss.2.1 := Nat.div_le_self _ _
  have := lpE (f := fun fu i (_ : Unit) M => fParcels_reduce_5 fu (nI (ss.2.1 - i)) M) (n := ss.2.1 - 1)
    (I := fun i _ M' => stM M' (if Nat.gcd ss.1 ss.2.1 ≤ ss.2.1 - i then ss else (ss.1 / Nat.gcd ss.1 ss.2.1, ss.2.1 / Nat.gcd ss.1 ss.2.1, ss.2.2.1, ss.2.2.2)) ∧ fq (fun c k => c = 48 ∧ 3 ≤ k ∧ k ≤ 6) M M')
    (R := fun o => ∃ M2, o = some ((), M2) ∧ stM M2 (ss.1 / Nat.gcd ss.1 ss.2.1, ss.2.1 / Nat.gcd ss.1 ss.2.1, ss.2.2.1, ss.2.2.2) ∧ fq (fun c k => c = 48 ∧ 3 ≤ k ∧ k ≤ 6) M M2) ?_ ?_ 0 FU () M (Nat.zero_le _) (fu_ok (by omega)) ⟨by rw [if_pos (by omega)]; exact hM, fq_rf⟩
  · exact this
  · rintro fu - M' ⟨h1, h2⟩
    rw [show ss.2.1 - (ss.2.1 - 1) = 1 by omega] at h1 ⊢
    refine ⟨M', by rw [fParcels_reduce_5, if_pos (by decide)], ?_, h2⟩
    by_cases hg1 : Nat.gcd ss.1 ss.2.1 ≤ 1
    · have hge : Nat.gcd ss.1 ss.2.1 = 1 := by omega
      rw [if_pos hg1] at h1
      rw [hge, Nat.div_one, Nat.div_one]
      exact h1
    · rw [if_neg hg1] at h1
      exact h1
  · rintro fu i - M' hi ⟨h1, h2⟩
    right
    obtain ⟨d, hd⟩ : ∃ d, ss.2.1 - i = d + 1 := ⟨ss.2.1 - i - 1, by omega⟩
    rw [hd] at h1
    have hd2 : ss.2.1 - (i + 1) = d := by omega
    show ∃ s2 M2, fParcels_reduce_5 (fu + 1) (nI (ss.2.1 - i)) M' = fParcels_reduce_5 fu (nI (ss.2.1 - (i + 1))) M2 ∧ _
    rw [hd, hd2]
    have e5 : ∀ (uu ll : Nat), uu < 10000 → ll < 10000 → M' 48 3 = nI uu → M' 48 4 = nI ll → fParcels_reduce_5 (fu + 1) (nI (d + 1)) M' = if uu % (d + 1) = 0 ∧ ll % (d + 1) = 0 then fParcels_reduce_5 fu (nI d) (zs (zs M' 48 3 (nI (uu / (d + 1)))) 48 4 (nI (ll / (d + 1)))) else fParcels_reduce_5 fu (nI d) M' := fun uu ll q1 q2 q3 q4 => by
      have hm1 : uu % (d + 1) < d + 1 := Nat.mod_lt _ (by omega)
      have hm2 : ll % (d + 1) < d + 1 := Nat.mod_lt _ (by omega)
      rw [fParcels_reduce_5, if_neg (show ¬ nI (d + 1) ≤ 1 from nI_ge (a := 1) (by omega) (by omega)), q3, zmod_ok (by omega) (by omega) (by omega), q4, zmod_ok (by omega) (by omega) (by omega), pk_m1, zdiv_ok (by omega) (by omega) (by omega), wf_eq, zs_nk (by decide), q4, zdiv_ok (by omega) (by omega) (by omega), wf_eq]
      by_cases c1 : uu % (d + 1) = 0
      · rw [c1, if_neg (show ¬ ¬ nI 0 = 0 from not_not_intro rfl)]
        by_cases c2 : ll % (d + 1) = 0
        · rw [c2, if_neg (show ¬ ¬ nI 0 = 0 from not_not_intro rfl), if_pos ⟨rfl, rfl⟩]
        · rw [if_pos (nI_ne0 (by omega) (by omega)), if_neg (fun z => c2 z.2)]
      · rw [if_pos (nI_ne0 (by omega) (by omega)), if_neg (fun z => c1 z.1)]
    by_cases hgd : Nat.gcd ss.1 ss.2.1 ≤ d + 1
    · rw [if_pos hgd] at h1
      rw [e5 ss.1 ss.2.1 (by omega) (by omega) h1.1 h1.2.1]
      by_cases hge : Nat.gcd ss.1 ss.2.1 = d + 1
      · have hm1 : ss.1 % (d + 1) = 0 := by rw [← hge]; exact Nat.mod_eq_zero_of_dvd (Nat.gcd_dvd_left _ _)
        have hm2 : ss.2.1 % (d + 1) = 0 := by rw [← hge]; exact Nat.mod_eq_zero_of_dvd (Nat.gcd_dvd_right _ _)
        rw [if_pos ⟨hm1, hm2⟩]
        refine ⟨(), _, rfl, ?_, fq_zs (fq_zs h2 (by omega)) (by omega)⟩
        rw [if_neg (by omega), hge]
        refine ⟨?_, zs_eq, ?_, ?_⟩
        · rw [zs_nk (by decide), zs_eq]
        · rw [zs_nk (by decide), zs_nk (by decide)]
          exact h1.2.2.1
        · rw [zs_nk (by decide), zs_nk (by decide)]
          exact h1.2.2.2
      · rw [if_neg (fun z => by
          have h3 : d + 1 ∣ Nat.gcd ss.1 ss.2.1 := Nat.dvd_gcd (Nat.dvd_of_mod_eq_zero z.1) (Nat.dvd_of_mod_eq_zero z.2)
          have := Nat.le_of_dvd hg h3
          omega)]
        refine ⟨(), M', rfl, ?_, h2⟩
        rw [if_pos (by omega)]
        exact h1
    · rw [if_neg hgd] at h1
      rw [e5 (ss.1 / Nat.gcd ss.1 ss.2.1) (ss.2.1 / Nat.gcd ss.1 ss.2.1) (by omega) (by omega) h1.1 h1.2.1]
      rw [if_neg (fun z => by
        have := cop_div hg z.1 z.2
        omega)]
      refine ⟨(), M', rfl, ?_, h2⟩
      rw [if_neg (by omega)]
      exact h1
theorem pfresh_X {M : zM} (hW : gW n E) (hN : NetX M n E) (hC : CX M n E) (hK : KX M) (hP : PX M n E) : ∃ M2, fParcels_fresh M = some (48, M2) ∧ stM M2 (gStr n E) ∧ NetX M2 n E ∧ CX M2 n E ∧ (M2 48 7 = M 48 7 ∨ M2 48 7 = M 1 2) ∧ fq (fun c k => zL c k ∨ (c = 48 ∧ 3 ≤ k ∧ k ≤ 7)) M M2 := by
  rw [fParcels_fresh]
  by_cases h7 : M 48 7 = M 1 2
  · rw [if_pos h7]
    exact ⟨M, rfl, hP h7, hN, hC, Or.inl rfl, fq_rf⟩
  · rw [if_neg h7, wf_eq]
    have f1 : fq (fun c k => c = 48 ∧ k = 7) M (zs M 48 7 (M 1 2)) := fq_zs fq_rf ⟨rfl, rfl⟩
    obtain ⟨M2, b1, b2, b3, b4, b5, b6⟩ := now_ok hW (fq_net f1 hN (fun k => by omega)) (hC.fq f1 (fun c k _ _ => by omega) (by omega)) (hK.fq f1 (fun c k _ _ => by omega)) (kd := 2) (by decide)
    have b1 : fLabels_now 2 (zs M 48 7 (M 1 2)) = some (29, M2) := b1
    obtain ⟨M3, c1, c2, c3, c4, c5, c6⟩ := find_X hW b5 b3 b2.1
    obtain ⟨M4, d1, d2, d3⟩ := reduce_X c4 c5
    refine ⟨M4, ?_, d2, fq_net d3 c2 (fun k => by omega), c3.fq d3 (fun c k _ _ => by omega) (by omega), Or.inr ?_, fq_tr (fq_mono f1 (fun c k h => by omega)) (fq_tr (fq_mono b6 (fun c k h => by omega)) (fq_tr (fq_mono c6 (fun c k h => by omega)) (fq_mono d3 (fun c k h => by omega))))⟩
    · rw [b1, cl_some, if_pos (by decide), c1, cl_some, d1, cl_some]
    · rw [d3 48 7 (by omega), c6 48 7 (by omega), b6 48 7 (by omega), zs_eq]
end stX
