/-! PURE: names of all kinds, on both sides -/
def gSF (n : Nat) (E : List (Nat × Nat)) : List Nat := sel (kyF E) n n
noncomputable def psF (n : Nat) (E : List (Nat × Nat)) : Nat → Nat → List (Nat × Nat)
  | 0 => fun _ => []
  | k + 1 => psN n E (psF n E k) k ((gSF n E).getD k 0)
theorem gSF_len {n : Nat} {E : List (Nat × Nat)} : (gSF n E).length = n := sel_len n
theorem gSF_nd {n : Nat} {E : List (Nat × Nat)} : (gSF n E).Nodup := (sel_ct (key := kyF E) (n := n) n (Nat.le_refl _)).1
theorem gSF_lt {n : Nat} {E : List (Nat × Nat)} {q : Nat} (h : q ∈ gSF n E) : q < n := (sel_ct (key := kyF E) (n := n) n (Nat.le_refl _)).2.1 q h
theorem gSF_mem {n : Nat} {E : List (Nat × Nat)} {q : Nat} (hq : q < n) : q ∈ gSF n E := by
  have h := (sel_ct (key := kyF E) (n := n) n (Nat.le_refl _)).2.2.1
  exact of_decide_eq_true ((fb_ct_all.mp h) q hq)
theorem gSF_get {n : Nat} {E : List (Nat × Nat)} {k : Nat} (hk : k < n) : ∃ h, (gSF n E)[k]? = some h ∧ (gSF n E).getD k 0 = h ∧ h < n := by
  obtain ⟨h, hh⟩ : ∃ h, (gSF n E)[k]? = some h := ⟨_, List.getElem?_eq_getElem (by rw [gSF_len]; exact hk)⟩
  exact ⟨h, hh, by rw [List.getD_eq_getElem?_getD, hh]; rfl, gSF_lt (List.mem_of_getElem? hh)⟩
theorem bOut_W {n : Nat} {E : List (Nat × Nat)} {pr : Nat → Nat → Bool} : ∀ (d i : Nat) (S : bS), bW n S → bW n (bOut E n pr d i S)
  | 0, _, _, h => h
  | d + 1, i, S, h => by
    rw [bOut]
    by_cases hi : i < S.1.length
    · rw [if_pos hi]
      apply bOut_W
      split
      · exact h
      · exact (bIn_W (E := E) (List.range' 0 n) S (fun x hx => range'_lt hx (by omega)) h (getD_of hi)).1
    · rw [if_neg hi]
      exact h
theorem psF_ok {n : Nat} {E : List (Nat × Nat)} (hn : n ≤ 12) : ∀ k, k ≤ n → okR (psF n E k) k
  | 0, _ => fun p => ⟨Nat.le_refl _, fun e he => (by cases he)⟩
  | k + 1, hk => fun p => by
    obtain ⟨h, -, h2, h3⟩ := gSF_get (E := E) (show k < n by omega)
    show (psN n E (psF n E k) k ((gSF n E).getD k 0) p).length ≤ k + 1 ∧ ∀ e ∈ psN n E (psF n E k) k ((gSF n E).getD k 0) p, e.1 < k + 1 ∧ e.2 < 12
    rw [h2]
    exact cur_ok hn (psF_ok hn k (by omega)) (bOut_W 12 0 _ (bW_one h3)) p
theorem NmX.fq {M M2 : zM} {c0 w : Nat} {nm : Nat → List Nat} {P : Nat → Nat → Prop} (h : NmX M c0 w nm) (hf : fq P M M2) (h1 : ∀ k, ¬ P c0 1 ∧ ¬ P (c0 + 1) k ∧ ¬ P (c0 + 2) k) : NmX M2 c0 w nm :=
  ⟨(hf c0 1 (h1 0).1).trans h.1, fun q hq => ⟨(hf (c0 + 1) q (h1 q).2.1).trans (h.2 q hq).1, (h.2 q hq).2.1, fun j a hj => (hf (c0 + 2) _ (h1 _).2.2).trans ((h.2 q hq).2.2 j a hj)⟩⟩
theorem selX.fq {M M2 : zM} {ca cb : Nat} {S : List Nat} {P : Nat → Nat → Prop} (h : selX M ca cb S) (hf : fq P M M2) (h1 : ∀ k, ¬ P ca k ∧ ¬ P cb k) : selX M2 ca cb S := fun i q hi => ⟨(hf ca q (h1 q).1).trans (h i q hi).1, (hf cb i (h1 i).2).trans (h i q hi).2⟩
theorem nameFar_ok {n : Nat} {E : List (Nat × Nat)} (hW : gW n E) {c0 : Nat} (hc : 23 ≤ c0) (hz : zln (c0 + 2) = 12 * 24) {M : zM} (hN : NetX M n E) (hM : NmX M c0 24 (fun _ => [])) :
    ∃ M2, fLabels_nameFar c0 M = some ((), M2) ∧ NmX M2 c0 24 (fun q => flat (psF n E n q)) ∧ selX M2 19 20 (gSF n E) ∧ fq (fun c _ => (19 ≤ c ∧ c ≤ 22) ∨ c = c0 + 1 ∨ c = c0 + 2) M M2 := by
  have hn := hW.1.2
  obtain ⟨M1, a1, a2, a3⟩ := ranks_X hW (c0 := c0) hN
  rw [a1]
  refine lpE (f := fun fu k (_ : Unit) M => fLabels_nameFar_65 fu c0 (nI k) M) (n := n)
    (I := fun k _ M' => NmX M' c0 24 (fun q => flat (psF n E k q)) ∧ fq (fun c _ => c = 21 ∨ c = 22 ∨ c = c0 + 1 ∨ c = c0 + 2) M1 M')
    (R := fun o => ∃ M2, o = some ((), M2) ∧ NmX M2 c0 24 (fun q => flat (psF n E n q)) ∧ selX M2 19 20 (gSF n E) ∧ fq (fun c _ => (19 ≤ c ∧ c ≤ 22) ∨ c = c0 + 1 ∨ c = c0 + 2) M M2) ?_ ?_ 0 FU () M1 (by omega) (fu_ok (by omega)) ⟨hM.fq a3 (fun k => by omega), fq_rf⟩
  · rintro fu - M' ⟨h1, h2⟩
    have hN' := fq_net h2 (fq_net a3 hN (fun k => by omega)) (fun k => by omega)
    refine ⟨M', ?_, h1, selX.fq a2 h2 (fun k => by omega), fq_tr (fq_mono a3 (fun c k h => by omega)) (fq_mono h2 (fun c k h => by omega))⟩
    rw [fLabels_nameFar_65, hN'.1, if_pos (nI_le (by omega) (by omega))]
  · rintro fu k - M' hk ⟨h1, h2⟩
    right
    have hN' := fq_net h2 (fq_net a3 hN (fun k => by omega)) (fun k => by omega)
    obtain ⟨h, g1, g2, g3⟩ := gSF_get (E := E) hk
    have hs := selX.fq a2 h2 (fun k => by omega) k h g1
    obtain ⟨M2, b1, b2, b3⟩ := spread_X hW hc hz hN' (show k < 12 by omega) g3 (psF_ok hn k (by omega)) h1 hs.1
    refine ⟨(), M2, ?_, ?_, fq_tr h2 b3⟩
    · rw [fLabels_nameFar_65, hN'.1, if_neg (nI_ge hk (by omega)), rd_ok (show k < 12 by omega) (by decide), hs.2, b1, cl_some, nI_1]
    · rw [psF, g2]
      exact b2
/-! the reference's hubs -/
theorem rank_at {n : Nat} {E : List (Nat × Nat)} {k h x : Nat} (hk : k < n) (hn : n ≤ 12) (g1 : (gSF n E)[k]? = some h) (hx : x < n) : (nI (fb_ct (fun q => bfo E q x) n) = nI k ↔ x = h) := by
  obtain ⟨i, hi⟩ := List.mem_iff_getElem?.mp (gSF_mem (E := E) hx)
  have hil : i < n := by
    have := (List.getElem?_eq_some_iff.mp hi).1
    rw [gSF_len] at this
    exact this
  rw [rank_ct hil hi, nI_eq (by omega) (by omega)]
  constructor
  · intro z
    rw [z, g1] at hi
    exact (Option.some.inj hi).symm
  · intro z
    rw [z] at hi
    exact nd_ix gSF_nd hi g1
theorem findHubs_ok {n : Nat} {E : List (Nat × Nat)} (hW : gW n E) {M : zM} (hN : NetY M n E) (hM : NmY M (fun _ => [])) :
    ∃ M2, fMd_findHubs M = some ((), M2) ∧ NmY M2 (fun q => flat (psF n E n q)) ∧ fq (fun c _ => c = 11 ∨ c = 7 ∨ c = 15 ∨ c = 12 ∨ c = 13) M M2 := by
  have hn := hW.1.2
  obtain ⟨M1, a1, a2, a3⟩ := ranks_Y hW hN
  rw [fMd_findHubs, a1, cl_some]
  refine lpE (f := fun fu k (_ : Unit) M => fMd_findHubs_6 fu (nI k) M) (n := n)
    (I := fun k _ M' => NmY M' (fun q => flat (psF n E k q)) ∧ fq (fun c _ => c = 7 ∨ c = 15 ∨ c = 12 ∨ c = 13) M1 M')
    (R := fun o => ∃ M2, o = some ((), M2) ∧ NmY M2 (fun q => flat (psF n E n q)) ∧ fq (fun c _ => c = 11 ∨ c = 7 ∨ c = 15 ∨ c = 12 ∨ c = 13) M M2) ?_ ?_ 0 FU () M1 (by omega) (fu_ok (by omega)) ⟨hM.fq a3 (fun k => by omega), fq_rf⟩
  · rintro fu - M' ⟨h1, h2⟩
    have hN' := fq_netY h2 (fq_netY a3 hN (fun k => by omega)) (fun k => by omega)
    refine ⟨M', ?_, h1, fq_tr (fq_mono a3 (fun c k h => by omega)) (fq_mono h2 (fun c k h => by omega))⟩
    rw [fMd_findHubs_6, hN'.1, if_pos (nI_le (by omega) (by omega))]
  · rintro fu k - M' hk ⟨h1, h2⟩
    right
    have hN' := fq_netY h2 (fq_netY a3 hN (fun k => by omega)) (fun k => by omega)
    obtain ⟨h, g1, g2, g3⟩ := gSF_get (E := E) hk
    have inner : ∃ M2, fMd_findHubs_16 (fMd_findHubs_6 fu) FU (nI k) 0 M' = fMd_findHubs_6 fu (nI (k + 1)) M2 ∧ NmY M2 (fun q => flat (psF n E (k + 1) q)) ∧ fq (fun c _ => c = 7 ∨ c = 15 ∨ c = 12 ∨ c = 13) M1 M2 := by
      refine lpE (f := fun fu2 x (_ : Unit) M => fMd_findHubs_16 (fMd_findHubs_6 fu) fu2 (nI k) (nI x) M) (n := n)
        (I := fun x _ M2 => NmY M2 (fun q => flat (psF n E (if h < x then k + 1 else k) q)) ∧ fq (fun c _ => c = 7 ∨ c = 15 ∨ c = 12 ∨ c = 13) M1 M2)
        (R := fun o => ∃ M2, o = fMd_findHubs_6 fu (nI (k + 1)) M2 ∧ NmY M2 (fun q => flat (psF n E (k + 1) q)) ∧ fq (fun c _ => c = 7 ∨ c = 15 ∨ c = 12 ∨ c = 13) M1 M2) ?_ ?_ 0 FU () M' (by omega) (fu_ok (by omega)) ⟨by rw [if_neg (by omega)]; exact h1, h2⟩
      · rintro fu2 - M2 ⟨i1, i2⟩
        have hN2 := fq_netY i2 (fq_netY a3 hN (fun k => by omega)) (fun k => by omega)
        rw [if_pos g3] at i1
        exact ⟨M2, by rw [fMd_findHubs_16, hN2.1, if_pos (nI_le (by omega) (by omega)), nI_1], i1, i2⟩
      · rintro fu2 x - M2 hx ⟨i1, i2⟩
        right
        have hN2 := fq_netY i2 (fq_netY a3 hN (fun k => by omega)) (fun k => by omega)
        rw [fMd_findHubs_16, hN2.1, if_neg (nI_ge hx (by omega)), rd_ok (show x < 12 by omega) (by decide), i2 11 x (by omega), a2 x hx, nI_1]
        simp only [rank_at hk hn g1 hx]
        by_cases hxh : x = h
        · rw [if_neg (not_not_intro hxh), hxh]
          rw [hxh, if_neg (by omega)] at i1
          obtain ⟨M3, b1, b2, b3⟩ := goFrom_Y hW hN2 (show k < 12 by omega) g3 (psF_ok hn k (by omega)) i1 (by rw [i2 11 h (by omega), a2 h g3]; exact (rank_at hk hn g1 g3).mpr rfl)
          refine ⟨(), M3, by rw [b1, cl_some], ?_, fq_tr i2 b3⟩
          rw [if_pos (by omega), psF, g2]
          exact b2
        · rw [if_pos hxh]
          refine ⟨(), M2, rfl, ?_, i2⟩
          have : (h < x + 1) ↔ h < x := by omega
          simp only [this]
          exact i1
    obtain ⟨M2, i1, i2, i3⟩ := inner
    refine ⟨(), M2, ?_, i2, i3⟩
    rw [fMd_findHubs_6, hN'.1, if_neg (nI_ge hk (by omega)), i1]
/-! all kinds -/
noncomputable def nmK (n : Nat) (E : List (Nat × Nat)) (kd : Nat) : Nat → List Nat := if kd = 0 then nmA n E n else if kd = 1 then upto (rowJ n E) n else fun q => flat (psF n E n q)
def wK (kd : Nat) : Nat := if kd = 0 then 2 else if kd = 1 then 12 else 24
abbrev zY : Nat → Nat → Prop := fun c k => (3 ≤ c ∧ c ≤ 16) ∨ (22 ≤ c ∧ c ≤ 24) ∨ (c = 0 ∧ (k = 9 ∨ k = 10))
theorem SY.fq {M M2 : zM} {n : Nat} {T : tT} {P : Nat → Nat → Prop} (h : SY M n T) (hf : fq P M M2) (h1 : ∀ k, ¬ P 0 9 ∧ ¬ P 0 10 ∧ ¬ P 3 k ∧ ¬ P 4 k ∧ ¬ P 5 k ∧ ¬ P 6 k) : SY M2 n T := by
  refine ⟨fun q hq => ?_, fun q hq => ?_, ?_, ?_⟩
  · rw [hf 4 q (h1 q).2.2.2.1]
    exact h.1 q hq
  · rw [hf 3 q (h1 q).2.2.1, hf 5 q (h1 q).2.2.2.2.1, hf 6 q (h1 q).2.2.2.2.2]
    exact h.2.1 q hq
  · rw [hf 0 9 (h1 0).1]
    exact h.2.2.1
  · rw [hf 0 10 (h1 0).2.1]
    exact h.2.2.2
theorem names_tail (v1 : Int32) (h0 : ¬ v1 = 0) (h3 : ¬ v1 = 3) (M : zM) : fMd_findNames_59 FU v1 0 M = some ((), M) := by
  have h1 : fMd_findNames_101 FU v1 0 M = some ((), M) := by
    rw [show FU = 4999 + 1 from rfl, fMd_findNames_101, if_pos h3]
    simp
  rw [show FU = 4999 + 1 from rfl, fMd_findNames_59, if_pos h0, h1]
  simp
theorem findTree_q {n : Nat} {E : List (Nat × Nat)} (hW : gW n E) {M : zM} (hN : NetY M n E) : ∃ M2, fMd_findTree M = some ((), M2) ∧ SY M2 n (gTree n E) ∧ fq zY M M2 := by
  obtain ⟨M2, h1, h2, h3⟩ := findTree_Y hW hN
  refine ⟨M2, h1, h2, fq_fr h3 (fun c k hc => ?_)⟩
  simp
  omega
theorem findNames_ok {n : Nat} {E : List (Nat × Nat)} (hW : gW n E) {M : zM} (hN : NetY M n E) {kd : Nat} (hk : kd < 3) :
    ∃ M2, fMd_findNames (nI kd) M = some ((), M2) ∧ NmY M2 (nmK n E kd) ∧ SY M2 n (gTree n E) ∧ fq zY M M2 := by
  have hn := hW.1.2
  obtain h0 | h0 | h0 : kd = 0 ∨ kd = 1 ∨ kd = 2 := by omega
  · subst h0
    obtain ⟨M2, a1, a2, a3, a4⟩ := findNames_0 hW hN
    exact ⟨M2, a1, a2, a3, fq_fr a4 (fun c k hc => by simp; omega)⟩
  · subst h0
    obtain ⟨M1, a1, a2, a3⟩ := findTree_q hW hN
    have hN1 := fq_netY a3 hN (fun k => by omega)
    obtain ⟨M2, b1, b2, b3⟩ := names6 1 12 0 FU M1 (by omega) (by omega) (by unfold FU; omega) (fun q hq => by omega)
    have b3 : fq (fun c _ => c = 12) M1 M2 := fq_fr b3 (fun c k hc => by simp; omega)
    obtain ⟨M3, c1, c2, c3⟩ := findRows_ok hW (fq_netY b3 hN1 (fun k => by omega)) b2
    rw [nI_0] at b1
    refine ⟨M3, ?_, c2, SY.fq (SY.fq a2 b3 (fun k => by omega)) c3 (fun k => by omega), fq_tr a3 (fq_tr (fq_mono b3 (fun c k h => by omega)) (fq_mono c3 (fun c k h => by omega)))⟩
    rw [fMd_findNames, a1, cl_some]
    show fMd_findNames_6 FU 1 0 M1 = _
    rw [b1, kindY, if_pos (by decide), if_neg (by decide), c1, cl_some, names_tail 1 (by decide) (by decide)]
  · subst h0
    obtain ⟨M1, a1, a2, a3⟩ := findTree_q hW hN
    have hN1 := fq_netY a3 hN (fun k => by omega)
    obtain ⟨M2, b1, b2, b3⟩ := names6 2 12 0 FU M1 (by omega) (by omega) (by unfold FU; omega) (fun q hq => by omega)
    have b3 : fq (fun c _ => c = 12) M1 M2 := fq_fr b3 (fun c k hc => by simp; omega)
    obtain ⟨M3, c1, c2, c3⟩ := findHubs_ok hW (fq_netY b3 hN1 (fun k => by omega)) b2
    rw [nI_0] at b1
    refine ⟨M3, ?_, c2, SY.fq (SY.fq a2 b3 (fun k => by omega)) c3 (fun k => by omega), fq_tr a3 (fq_tr (fq_mono b3 (fun c k h => by omega)) (fq_mono c3 (fun c k h => by omega)))⟩
    rw [fMd_findNames, a1, cl_some]
    show fMd_findNames_6 FU 2 0 M1 = _
    rw [b1, kindY, if_pos (by decide), if_pos (by decide), if_neg (by decide), c1, cl_some, names_tail 2 (by decide) (by decide)]
