/-! PURE: ways, in the class -/
section wyX
variable {n : Nat} {E : List (Nat × Nat)}
def OX (M : zM) (op : opT) : Prop := ∀ x, x < 12 → M 50 x = nI (mkM (op x) 12)
def RQ (n aa : Nat) (QQ : List Nat) : Prop := QQ.Nodup ∧ (∀ q ∈ QQ, q < n) ∧ QQ[0]? = some aa
def RP (op : opT) (par : Nat → Int32) (QQ : List Nat) : Prop := ∀ j q : Nat, 0 < j → QQ[j]? = some q → ∃ i p : Nat, i < j ∧ QQ[i]? = some p ∧ par q = nI p ∧ op p q = true
theorem RQ_add {aa q : Nat} {QQ : List Nat} (h : RQ n aa QQ) (hq : q < n) (hno : ¬ q ∈ QQ) : RQ n aa (QQ ++ [q]) := by
  refine ⟨?_, fun x hx => ?_, app_left h.2.2⟩
  · rw [List.nodup_append]
    refine ⟨h.1, by simp, fun a ha b hb => ?_⟩
    simp only [List.mem_singleton] at hb
    rw [hb]
    exact fun z => hno (z ▸ ha)
  · rcases mem_app1.mp hx with z | z
    · exact h.2.1 x z
    · rw [z]
      exact hq
theorem RQ_len {aa : Nat} {QQ : List Nat} (h : RQ n aa QQ) : QQ.length ≤ n ∧ 0 < QQ.length := ⟨nodup_len h.1 h.2.1, (List.getElem?_eq_some_iff.mp h.2.2).1⟩
theorem reach_X {M : zM} (hW : gW n E) (hN : M 1 0 = nI n) {op : opT} (hO : OX M op) {aa bb : Nat} (ha : aa < n) (hb : bb < n) :
    ∃ (QQ : List Nat) (M2 : zM), fCuts_reach (nI aa) (nI bb) M = some (bI (decide (bb ∈ QQ)), M2) ∧ RQ n aa QQ ∧ RP op (M2 52) QQ ∧ (∀ x y, x ∈ QQ → y < n → op x y = true → y ∈ QQ) ∧ fq (fun c _ => c = 51 ∨ c = 52) M M2 := by
  have hn := hW.1.2
  have cm1 : nI (cmM ([aa], fun _ => 0)) = zshl 1 (nI aa) := by
    rw [zshl_pow (by omega)]
    congr 1
    symm
    apply mkM_of (pow_ltk (by omega))
    intro j hj
    rw [testBit_pow]
    by_cases z : j = aa
    · simp [z]
    · have : ¬ aa = j := fun y => z y.symm
      simp [z, this]
  have fin : ∀ (QQ : List Nat) (M' : zM), fCuts_reach_125 (nI bb) (nI (cmM (QQ, fun _ => 0))) M' = some (bI (decide (bb ∈ QQ)), M') := fun QQ M' => by
    rw [fCuts_reach_125, zbit (Nat.lt_trans (cmM_lt _) (by decide)) (by omega), zbl_0, zbl_1]
    unfold cmM
    rw [mkM_bit, decide_eq_true (show bb < 12 by omega), Bool.true_and]
    cases decide (bb ∈ QQ) with
    | false => rw [bI_f, if_pos (by decide)]
    | true => rw [bI_t, if_neg (by decide)]
  rw [fCuts_reach, lt_eq, ← cm1, qlit0, wr_ok (show 0 < 12 by decide) (by decide)]
  have st51 : ∀ j q : Nat, [aa][j]? = some q → (zs M 51 0 (nI aa)) 51 j = nI q := by
    intro j q hq
    cases j with
    | zero =>
      have : aa = q := Option.some.inj hq
      rw [zs_eq, this]
    | succ j => cases hq
  have st52 : RP op ((zs M 51 0 (nI aa)) 52) [aa] := by
    intro j q hj hq
    cases j with
    | zero => omega
    | succ j => cases hq
  refine lpE (f := fun fu i (QQ : List Nat) M => fCuts_reach_17 fu (nI bb) (nI (cmM (QQ, fun _ => 0))) (nI QQ.length) (nI i) M) (n := 12)
    (I := fun i QQ M' => RQ n aa QQ ∧ (∀ j q : Nat, QQ[j]? = some q → M' 51 j = nI q) ∧ RP op (M' 52) QQ ∧ (∀ j x y : Nat, j < i → QQ[j]? = some x → y < n → op x y = true → y ∈ QQ) ∧ i ≤ QQ.length ∧ fq (fun c _ => c = 51 ∨ c = 52) M M')
    (R := fun o => ∃ (QQ : List Nat) (M2 : zM), o = some (bI (decide (bb ∈ QQ)), M2) ∧ RQ n aa QQ ∧ RP op (M2 52) QQ ∧ (∀ x y, x ∈ QQ → y < n → op x y = true → y ∈ QQ) ∧ fq (fun c _ => c = 51 ∨ c = 52) M M2) ?_ ?_ 0 FU [aa] _ (by omega) (fu_ok (by omega)) ⟨⟨by simp, fun q hq => by simp at hq; omega, rfl⟩, st51, st52, fun j x y hj => by omega, Nat.zero_le _, fq_zs fq_rf (by omega)⟩
  · rintro fu QQ M' ⟨h1, h2, h3, h4, h5, h6⟩
    have hl := RQ_len h1
    refine ⟨QQ, M', ?_, h1, h3, fun x y hx hy hxy => ?_, h6⟩
    · rw [fCuts_reach_17, if_pos (nI_le (by omega) (by omega)), fin]
    · obtain ⟨j, hj⟩ := List.mem_iff_getElem?.mp hx
      exact h4 j x y (by have := (List.getElem?_eq_some_iff.mp hj).1; omega) hj hy hxy
  · rintro fu i QQ M' hi ⟨h1, h2, h3, h4, h5, h6⟩
    have hl := RQ_len h1
    by_cases hil : i < QQ.length
    · right
      have hp := getD_of hil
      generalize QQ.getD i 0 = pp at hp
      have hpm := List.mem_of_getElem? hp
      have hpn := h1.2.1 pp hpm
      have inner : ∃ (Q2 : List Nat) (M2 : zM), fCuts_reach_48 (fCuts_reach_17 fu) FU (nI bb) (nI (cmM (QQ, fun _ => 0))) (nI QQ.length) (nI i) (nI pp) 0 M' = fCuts_reach_17 fu (nI bb) (nI (cmM (Q2, fun _ => 0))) (nI Q2.length) (nI (i + 1)) M2 ∧ RQ n aa Q2 ∧ (∀ j q : Nat, Q2[j]? = some q → M2 51 j = nI q) ∧ RP op (M2 52) Q2 ∧ (∀ j q : Nat, QQ[j]? = some q → Q2[j]? = some q) ∧ (∀ y, y < n → op pp y = true → y ∈ Q2) ∧ fq (fun c _ => c = 51 ∨ c = 52) M M2 := by
        refine lpE (f := fun fu2 k (Q2 : List Nat) M => fCuts_reach_48 (fCuts_reach_17 fu) fu2 (nI bb) (nI (cmM (Q2, fun _ => 0))) (nI Q2.length) (nI i) (nI pp) (nI k) M) (n := n)
          (I := fun k Q2 M2 => RQ n aa Q2 ∧ (∀ j q : Nat, Q2[j]? = some q → M2 51 j = nI q) ∧ RP op (M2 52) Q2 ∧ (∀ j q : Nat, QQ[j]? = some q → Q2[j]? = some q) ∧ (∀ y, y < k → op pp y = true → y ∈ Q2) ∧ fq (fun c _ => c = 51 ∨ c = 52) M M2)
          (R := fun o => ∃ (Q2 : List Nat) (M2 : zM), o = fCuts_reach_17 fu (nI bb) (nI (cmM (Q2, fun _ => 0))) (nI Q2.length) (nI (i + 1)) M2 ∧ RQ n aa Q2 ∧ (∀ j q : Nat, Q2[j]? = some q → M2 51 j = nI q) ∧ RP op (M2 52) Q2 ∧ (∀ j q : Nat, QQ[j]? = some q → Q2[j]? = some q) ∧ (∀ y, y < n → op pp y = true → y ∈ Q2) ∧ fq (fun c _ => c = 51 ∨ c = 52) M M2) ?_ ?_ 0 FU QQ M' (by omega) (fu_ok (by omega)) ⟨h1, h2, h3, fun j q hq => hq, fun y hy => by omega, h6⟩
        · rintro fu2 Q2 M2 ⟨g1, g2, g3, g4, g5, g6⟩
          refine ⟨Q2, M2, ?_, g1, g2, g3, g4, g5, g6⟩
          rw [fCuts_reach_48, g6 1 0 (by omega), hN, if_pos (nI_le (by omega) (by omega)), nI_1]
        · rintro fu2 k Q2 M2 hk ⟨g1, g2, g3, g4, g5, g6⟩
          right
          have hl2 := RQ_len g1
          have hbit : zshr (nI (cmM (Q2, fun _ => 0))) (nI k) &&& 1 = bI (decide (k ∈ Q2)) := by
            rw [zbit (Nat.lt_trans (cmM_lt _) (by decide)) (by omega)]
            unfold cmM
            rw [mkM_bit]
            simp [show k < 12 by omega]
          have hob : zshr (nI (mkM (op pp) 12)) (nI k) &&& 1 = bI (op pp k) := by
            rw [zbit (Nat.lt_trans (mkM_lt _ _) (by decide)) (by omega), mkM_bit]
            simp [show k < 12 by omega]
          rw [fCuts_reach_48, g6 1 0 (by omega), hN, if_neg (nI_ge hk (by omega)), rd_ok (show pp < 12 by omega) (by decide), g6 50 pp (by omega), hO pp (by omega), hob, hbit, nI_1, nI_1]
          cases hop : op pp k with
          | false =>
            rw [bI_f, if_pos (by decide)]
            refine ⟨Q2, M2, rfl, g1, g2, g3, g4, fun y hy hy2 => ?_, g6⟩
            by_cases hyk : y = k
            · rw [hyk, hop] at hy2
              cases hy2
            · exact g5 y (by omega) hy2
          | true =>
            rw [bI_t, if_neg (by decide)]
            by_cases hkQ : k ∈ Q2
            · rw [if_pos (by simp [hkQ, bI])]
              refine ⟨Q2, M2, rfl, g1, g2, g3, g4, fun y hy hy2 => ?_, g6⟩
              by_cases hyk : y = k
              · rw [hyk]
                exact hkQ
              · exact g5 y (by omega) hy2
            · rw [if_neg (by simp [hkQ, bI])]
              have hR2 := RQ_add g1 hk hkQ
              have hl3 := (RQ_len hR2).1
              rw [List.length_append, List.length_singleton] at hl3
              have hcm : nI (cmM (Q2, fun _ => 0)) ||| zshl 1 (nI k) = nI (cmM (Q2 ++ [k], fun _ => 0)) := cmM_add (p := 0) (S := (Q2, fun _ => 0)) (show k < 12 by omega)
              rw [lt_eq, wr_ok (show k < 12 by omega) (by decide), wr_ok (show Q2.length < 12 by omega) (by decide), hcm]
              refine ⟨Q2 ++ [k], zs (zs M2 52 k (nI pp)) 51 Q2.length (nI k), by rw [List.length_append]; rfl, hR2, fun j q hq => ?_, fun j q hj hq => ?_, fun j q hq => app_left (g4 j q hq), fun y hy hy2 => ?_, fq_zs (fq_zs g6 (by omega)) (by omega)⟩
              · rcases app_get hq with ⟨c1, c2⟩ | ⟨c1, c2⟩
                · rw [zs_nk (by omega), zs_nc (by decide)]
                  exact g2 j q c2
                · rw [c1, c2, zs_eq]
              · rw [zs_nc (by decide)]
                rcases app_get hq with ⟨c1, c2⟩ | ⟨c1, c2⟩
                · obtain ⟨i0, p0, d1, d2, d3, d4⟩ := g3 j q hj c2
                  refine ⟨i0, p0, d1, app_left d2, ?_, d4⟩
                  rw [zs_nk (show ¬ q = k from fun z => hkQ (z ▸ List.mem_of_getElem? c2))]
                  exact d3
                · have hpi := g4 i pp hp
                  refine ⟨i, pp, ?_, app_left hpi, by rw [c2, zs_eq], by rw [c2]; exact hop⟩
                  have := (List.getElem?_eq_some_iff.mp hpi).1
                  omega
              · by_cases hyk : y = k
                · rw [hyk]
                  exact mem_app1.mpr (Or.inr rfl)
                · exact mem_app1.mpr (Or.inl (g5 y (by omega) hy2))
      obtain ⟨Q2, M2, i1, i2, i3, i4, i5, i6, i7⟩ := inner
      have hl2 := RQ_len i2
      have hil2 : i < Q2.length := (List.getElem?_eq_some_iff.mp (i5 i pp hp)).1
      refine ⟨Q2, M2, ?_, i2, i3, i4, fun j x y hj hjx hy hxy => ?_, by omega, i7⟩
      · rw [fCuts_reach_17, if_neg (nI_ge hil (by omega)), h6 1 0 (by omega), hN, if_neg (nI_ge (by omega) (by omega)), rd_ok hi (by decide), h2 i pp hp, i1]
      · by_cases hji : j = i
        · rw [hji, i5 i pp hp] at hjx
          rw [← Option.some.inj hjx] at hxy
          exact i6 y hy hxy
        · obtain ⟨x0, hx0⟩ : ∃ x0, QQ[j]? = some x0 := ⟨_, List.getElem?_eq_getElem (by omega)⟩
          rw [i5 j x0 hx0] at hjx
          rw [← Option.some.inj hjx] at hxy
          obtain ⟨j2, hj2⟩ := List.mem_iff_getElem?.mp (h4 j x0 y (by omega) hx0 hy hxy)
          exact List.mem_of_getElem? (i5 j2 y hj2)
    · left
      refine ⟨QQ, M', ?_, h1, h3, fun x y hx hy hxy => ?_, h6⟩
      · rw [fCuts_reach_17, if_pos (nI_le (by omega) (by omega)), fin]
      · obtain ⟨j, hj⟩ := List.mem_iff_getElem?.mp hx
        exact h4 j x y (by have := (List.getElem?_eq_some_iff.mp hj).1; omega) hj hy hxy
theorem OX_set {M : zM} {op : opT} (h : OX M op) {x y : Nat} (hx : x < 12) (hy : y < 12) : OX (zs M 50 x (nI (mkM (op x) 12) ||| zshl 1 (nI y))) (opU op x y true) := by
  intro u hu
  by_cases hux : u = x
  · rw [hux, zs_eq, zshl_pow (by omega), fa_or]
    congr 1
    apply mkM_of (or_lt (mkM_lt _ _) (pow_ltk hy))
    intro j hj
    rw [fb_bit_set, mkM_bit, decide_eq_true hj, Bool.true_and]
    unfold opU
    by_cases hjy : j = y
    · simp [hjy]
    · simp [hjy]
  · rw [zs_nk hux, h u hu]
    congr 1
    apply mkM_cong
    intro j _
    exact (opU_ne (fun z => hux z.1)).symm
theorem OX_clr {M : zM} {op : opT} (h : OX M op) {x y : Nat} (hx : x < 12) (hy : y < 12) : OX (zs M 50 x (nI (mkM (op x) 12) &&& (zshl 1 (nI y) ^^^ (-1)))) (opU op x y false) := by
  intro u hu
  by_cases hux : u = x
  · rw [hux, zs_eq, zshl_pow (by omega), nI_clr]
    congr 1
    apply mkM_of (clr_lt (mkM_lt _ _))
    intro j hj
    rw [clr_bit (Nat.lt_trans (mkM_lt _ _) (by decide)), mkM_bit, decide_eq_true hj, Bool.true_and]
    unfold opU
    by_cases hjy : j = y
    · simp [hjy]
    · have : ¬ y = j := fun z => hjy z.symm
      simp [hjy, this]
  · rw [zs_nk hux, h u hu]
    congr 1
    apply mkM_cong
    intro j _
    exact (opU_ne (fun z => hux z.1)).symm
theorem take_W {M : zM} (hn : n ≤ 12) {op : opT} (hO : OX M op) {aa bb : Nat} {QQ : List Nat} (hQ : RQ n aa QQ) (hP : RP op (M 52) QQ) (hb : bb ∈ QQ) {vv : Int} (hI : flI n E aa bb op vv) : ∃ (op2 : opT) (M2 : zM), fCuts_takeWay (nI aa) (nI bb) M = some ((), M2) ∧ OX M2 op2 ∧ flI n E aa bb op2 (vv + 1) ∧ fq (fun c _ => c = 50) M M2 := by
  have hl := RQ_len hQ
  obtain ⟨jb, hjb⟩ := List.mem_iff_getElem?.mp hb
  have hjbl := (List.getElem?_eq_some_iff.mp hjb).1
  rw [fCuts_takeWay]
  refine lpE (f := fun fu s (cc : Nat) M => fCuts_takeWay_5 fu (nI aa) (nI cc) (nI s) M) (n := 12)
    (I := fun s cc M' => ∃ (op2 : opT) (j : Nat), QQ[j]? = some cc ∧ s + j ≤ 11 ∧ OX M' op2 ∧ flJ n E aa bb cc op2 vv ∧ (∀ j1 j2 u v : Nat, j1 ≤ j → j2 ≤ j → QQ[j1]? = some u → QQ[j2]? = some v → op2 u v = op u v) ∧ fq (fun c _ => c = 50) M M')
    (R := fun o => ∃ (op2 : opT) (M2 : zM), o = some ((), M2) ∧ OX M2 op2 ∧ flI n E aa bb op2 (vv + 1) ∧ fq (fun c _ => c = 50) M M2) ?_ ?_ 0 FU bb M (by omega) (fu_ok (by omega)) ⟨op, jb, hjb, by omega, hO, flJ_0 hI, fun _ _ _ _ _ _ _ _ => rfl, fq_rf⟩
  · rintro fu cc M' ⟨op2, j, h1, h2, -⟩
    omega
  · rintro fu s cc M' hs ⟨op2, j, h1, h2, h3, h4, h5, h6⟩
    have hcn := hQ.2.1 cc (List.mem_of_getElem? h1)
    have han := hQ.2.1 aa (List.mem_of_getElem? hQ.2.2)
    rw [fCuts_takeWay_5, if_neg (show ¬ (12 : Int32) ≤ nI s from nI_ge (b := 12) hs (by omega))]
    by_cases hca : cc = aa
    · left
      rw [if_pos (by rw [hca])]
      rw [hca] at h4
      exact ⟨op2, M', rfl, h3, flJ_end h4, h6⟩
    · right
      rw [if_neg (fun z => hca ((nI_eq (by omega) (by omega)).mp z))]
      have hj0 : 0 < j := by
        rcases Nat.eq_zero_or_pos j with z | z
        · rw [z, hQ.2.2] at h1
          exact absurd (Option.some.inj h1).symm hca
        · exact z
      obtain ⟨i, pp, p1, p2, p3, p4⟩ := hP j cc hj0 h1
      have hpn := hQ.2.1 pp (List.mem_of_getElem? p2)
      have hpc : ¬ pp = cc := fun z => by
        rw [z] at p2
        have := nd_ix hQ.1 p2 h1
        omega
      have hop2 : op2 pp cc = true := by rw [h5 i j pp cc (by omega) (Nat.le_refl _) p2 h1]; exact p4
      have hkeep : ∀ j1 j2 u v : Nat, j1 ≤ i → j2 ≤ i → QQ[j1]? = some u → QQ[j2]? = some v → opP op2 pp cc u v = op u v := fun j1 j2 u v q1 q2 q3 q4 => by
        have huc : ¬ u = cc := fun z => by
          rw [z] at q3
          have := nd_ix hQ.1 q3 h1
          omega
        have hvc : ¬ v = cc := fun z => by
          rw [z] at q4
          have := nd_ix hQ.1 q4 h1
          omega
        rw [opP_other (fun z => hvc z.2) (fun z => huc z.1)]
        exact h5 j1 j2 u v (by omega) (by omega) q3 q4
      have hJ := flJ_step hpn hcn hpc h4 hop2
      have hbit : zshr (nI (mkM (op2 cc) 12)) (nI pp) &&& 1 = bI (op2 cc pp) := by
        rw [zbit (Nat.lt_trans (mkM_lt _ _) (by decide)) (by omega), mkM_bit]
        simp [show pp < 12 by omega]
      rw [rd_ok (show cc < 12 by omega) (by decide), h6 52 cc (by omega), p3, rd_ok (show cc < 12 by omega) (by decide), h3 cc (by omega), hbit, rd_ok (show cc < 12 by omega) (by decide), h3 cc (by omega), wr_ok (show cc < 12 by omega) (by decide), rd_ok (show pp < 12 by omega) (by decide), h3 pp (by omega), wr_ok (show pp < 12 by omega) (by decide), nI_1]
      cases hrev : op2 cc pp with
      | false =>
        rw [bI_f, if_pos (by decide)]
        have e : opP op2 pp cc = opU op2 cc pp true := by
          unfold opP
          rw [if_neg (by rw [hrev]; decide)]
        rw [e] at hJ hkeep
        exact ⟨pp, _, rfl, opU op2 cc pp true, i, p2, by omega, OX_set h3 (by omega) (by omega), hJ, hkeep, fq_zs h6 rfl⟩
      | true =>
        rw [bI_t, if_neg (by decide)]
        have e : opP op2 pp cc = opU op2 pp cc false := by
          unfold opP
          rw [if_pos hrev]
        rw [e] at hJ hkeep
        exact ⟨pp, _, rfl, opU op2 pp cc false, i, p2, by omega, OX_clr h3 (by omega) (by omega), hJ, hkeep, fq_zs h6 rfl⟩
/-- what ways answers -/
def wayV (n : Nat) (E : List (Nat × Nat)) (aa bb : Nat) (vv : Nat) : Prop := ∃ (op : opT) (SS : Nat → Bool), flI n E aa bb op (vv : Int) ∧ SS aa = true ∧ SS bb = false ∧ ∀ x y, x < n → y < n → SS x = true → op x y = true → SS y = true
theorem wayV_one {aa bb v1 v2 : Nat} (ha : aa < n) (h1 : wayV n E aa bb v1) (h2 : wayV n E aa bb v2) : v1 = v2 := by
  obtain ⟨op, SS, a1, a2, a3, a4⟩ := h1
  obtain ⟨op2, S2, b1, b2, b3, b4⟩ := h2
  have := flow_one ha a1 b1 a2 a3 a4 b2 b3 b4
  omega
theorem separate_X {M : zM} (hW : gW n E) (hN : NetX M n E) {aa bb : Nat} (ha : aa < n) (hb : bb < n) (hab : ¬ aa = bb) : ∃ (vv : Nat) (M2 : zM), fCuts_separateWays (nI aa) (nI bb) M = some (nI vv, M2) ∧ wayV n E aa bb vv ∧ fq (fun c _ => c = 50 ∨ c = 51 ∨ c = 52) M M2 := by
  have hn := hW.1.2
  rw [fCuts_separateWays]
  unfold zcp
  rw [if_pos (by decide)]
  have f0 : fq (fun c _ => c = 50 ∨ c = 51 ∨ c = 52) M (fun j => if j = 50 then va_cpy (M 4) (M 50) (0 : Int32).toNatClampNeg (0 : Int32).toNatClampNeg (12 : Int32).toNatClampNeg else M j) := fun c k hc => by
    show (if c = 50 then va_cpy (M 4) (M 50) (0 : Int32).toNatClampNeg (0 : Int32).toNatClampNeg (12 : Int32).toNatClampNeg else M c) k = M c k
    rw [if_neg (fun z => hc (Or.inl z))]
  have hO0 : OX (fun j => if j = 50 then va_cpy (M 4) (M 50) (0 : Int32).toNatClampNeg (0 : Int32).toNatClampNeg (12 : Int32).toNatClampNeg else M j) (fun x y => gA E x y) := fun x hx => by
    show (if 50 = 50 then va_cpy (M 4) (M 50) 0 0 12 else M 50) x = _
    rw [if_pos rfl, pk_cpy_in (Nat.zero_le _) (by omega), Nat.zero_add, Nat.sub_zero]
    exact hN.2.2.2 x hx
  refine lpE (f := fun fu k (_ : Unit) M => fCuts_separateWays_20 fu (nI aa) (nI bb) (nI k) M) (n := 12)
    (I := fun k _ M' => (∃ op, OX M' op ∧ flI n E aa bb op (k : Int)) ∧ fq (fun c _ => c = 50 ∨ c = 51 ∨ c = 52) M M')
    (R := fun o => ∃ (vv : Nat) (M2 : zM), o = some (nI vv, M2) ∧ wayV n E aa bb vv ∧ fq (fun c _ => c = 50 ∨ c = 51 ∨ c = 52) M M2) ?_ ?_ 0 FU () _ (by omega) (fu_ok (by omega)) ⟨⟨_, hO0, flI_0⟩, f0⟩
  · rintro fu - M' ⟨⟨op, h1, h2⟩, h3⟩
    have := flow_le hW ha hab h2
    omega
  · rintro fu k - M' hk ⟨⟨op, h1, h2⟩, h3⟩
    obtain ⟨QQ, M2, r1, r2, r3, r4, r5⟩ := reach_X hW ((h3 1 0 (by omega)).trans hN.1) h1 ha hb
    have f2 : fq (fun c _ => c = 50 ∨ c = 51 ∨ c = 52) M M2 := fq_tr h3 (fq_mono r5 (fun c k h => by omega))
    have hO2 : OX M2 op := fun x hx => by rw [r5 50 x (by omega)]; exact h1 x hx
    rw [fCuts_separateWays_20, if_neg (show ¬ (12 : Int32) ≤ nI k from nI_ge (b := 12) hk (by omega)), r1, cl_some]
    by_cases hbQ : bb ∈ QQ
    · right
      rw [decide_eq_true hbQ, bI_t, if_pos (by decide)]
      obtain ⟨op2, M3, t1, t2, t3, t4⟩ := take_W (E := E) hn hO2 r2 r3 hbQ h2
      refine ⟨(), M3, by rw [t1, cl_some, nI_1], ⟨op2, t2, ?_⟩, fq_tr f2 (fq_mono t4 (fun c k h => by omega))⟩
      rw [show ((k + 1 : Nat) : Int) = (k : Int) + 1 by omega]
      exact t3
    · left
      rw [decide_eq_false hbQ, bI_f, if_neg (not_not_intro rfl)]
      refine ⟨k, M2, rfl, ⟨op, fun x => decide (x ∈ QQ), h2, decide_eq_true (List.mem_of_getElem? r2.2.2), decide_eq_false hbQ, fun x y _ hy hx hxy => decide_eq_true (r4 x y (of_decide_eq_true hx) hy hxy)⟩, f2⟩
end wyX
