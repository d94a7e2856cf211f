/-! PURE: ways in the reference, to its end; step ways -/
section wyZ
variable {n : Nat} {E : List (Nat × Nat)}
theorem takeY {M : zM} (hW : gW n E) (hN : NetY M n E) {gn : Nat → Nat} (hG : GY M E gn) {aa bb : Nat} {QQ : List Nat} (hQ : RQ n aa QQ) (hP : RPY E (opG E gn) (M 23) QQ) (hb : bb ∈ QQ) {vv : Int} (hI : flI n E aa bb (opG E gn) vv) : ∃ (gn2 : Nat → Nat) (M2 : zM), fMd_oneMore_224 FU (nI aa) (nI bb) M = some (1, M2) ∧ GY M2 E gn2 ∧ flI n E aa bb (opG E gn2) (vv + 1) ∧ fq (fun c _ => c = 22) M M2 := by
  have hn := hW.1.2
  have hl := RQ_len hQ
  obtain ⟨jb, hjb⟩ := List.mem_iff_getElem?.mp hb
  have hjbl := (List.getElem?_eq_some_iff.mp hjb).1
  refine lpE (f := fun fu _ (cc : Nat) M => fMd_oneMore_224 fu (nI aa) (nI cc) M) (n := 12)
    (I := fun s cc M' => ∃ (gn2 : Nat → Nat) (j : Nat), QQ[j]? = some cc ∧ s + j ≤ 11 ∧ GY M' E gn2 ∧ flJ n E aa bb cc (opG E gn2) vv ∧ (∀ j1 j2 u v : Nat, j1 ≤ j → j2 ≤ j → QQ[j1]? = some u → QQ[j2]? = some v → opG E gn2 u v = opG E gn u v) ∧ fq (fun c _ => c = 22) M M')
    (R := fun o => ∃ (gn2 : Nat → Nat) (M2 : zM), o = some (1, M2) ∧ GY M2 E gn2 ∧ flI n E aa bb (opG E gn2) (vv + 1) ∧ fq (fun c _ => c = 22) M M2) ?_ ?_ 0 FU bb M (by omega) (fu_ok (by omega)) ⟨gn, jb, hjb, by omega, hG, flJ_0 hI, fun _ _ _ _ _ _ _ _ => rfl, fq_rf⟩
  · rintro fu cc M' ⟨gn2, j, h1, h2, -⟩
    omega
  · rintro fu s cc M' hs ⟨gn2, j, h1, h2, h3, h4, h5, h6⟩
    have hcn := hQ.2.1 cc (List.mem_of_getElem? h1)
    have han := hQ.2.1 aa (List.mem_of_getElem? hQ.2.2)
    rw [fMd_oneMore_224]
    by_cases hca : cc = aa
    · left
      rw [if_pos (by rw [hca]), zbl_1]
      rw [hca] at h4
      exact ⟨gn2, M', rfl, h3, flJ_end h4, h6⟩
    · right
      rw [if_neg (fun z => hca ((nI_eq (by omega) (by omega)).mp z))]
      have hj0 : 0 < j := by
        rcases Nat.eq_zero_or_pos j with z | z
        · rw [z, hQ.2.2] at h1
          exact absurd (Option.some.inj h1).symm hca
        · exact z
      obtain ⟨i, pp, l, e, p1, p2, p3, p4, p5, p6⟩ := hP j cc hj0 h1
      have hpn := hQ.2.1 pp (List.mem_of_getElem? p2)
      obtain ⟨l30, e1n, e2n, hne⟩ := hW.get p4
      have hll := (List.getElem?_eq_some_iff.mp p4).1
      have hpc : ¬ pp = cc := fun z => by
        rw [z] at p2
        have := nd_ix hQ.1 p2 h1
        omega
      have hop2 : opG E gn2 pp cc = true := by rw [h5 i j pp cc (by omega) (Nat.le_refl _) p2 h1]; exact p6
      have hkeep : ∀ j1 j2 u v : Nat, j1 ≤ i → j2 ≤ i → QQ[j1]? = some u → QQ[j2]? = some v → opP (opG E gn2) pp cc u v = opG E gn u v := fun j1 j2 u v q1 q2 q3 q4 => by
        have huc : ¬ u = cc := fun z => by
          rw [z] at q3
          have := nd_ix hQ.1 q3 h1
          omega
        have hvc : ¬ v = cc := fun z => by
          rw [z] at q4
          have := nd_ix hQ.1 q4 h1
          omega
        rw [opP_other (fun z => hvc z.2) (fun z => huc z.1)]
        exact h5 j1 j2 u v (by omega) (by omega) q3 q4
      have hJ := flJ_step hpn hcn hpc h4 hop2
      have hstep := opG_step hW h3.1 p4 p5 hop2
      have hN' := fq_netY h6 hN (fun k => by omega)
      have hm := hN'.2.2 l e p4
      have hgl := h3.2 l hll
      have hg2 := h3.1 l
      have fin : ∀ vnew : Nat, vnew = (if ¬ gn2 l = 0 then 0 else if e.2 = cc then 1 else 2) → ∃ (s2 : Nat) (M2 : zM), fMd_oneMore_224 fu (nI aa) (nI pp) (zs M' 22 l (nI vnew)) = fMd_oneMore_224 fu (nI aa) (nI s2) M2 ∧ ∃ (gn3 : Nat → Nat) (j2 : Nat), QQ[j2]? = some s2 ∧ s + 1 + j2 ≤ 11 ∧ GY M2 E gn3 ∧ flJ n E aa bb s2 (opG E gn3) vv ∧ (∀ j1 j3 u v : Nat, j1 ≤ j2 → j3 ≤ j2 → QQ[j1]? = some u → QQ[j3]? = some v → opG E gn3 u v = opG E gn u v) ∧ fq (fun c _ => c = 22) M M2 := fun vnew hv => by
        have hv2 : vnew ≤ 2 := by
          rw [hv]
          split
          · decide
          · split <;> decide
        refine ⟨pp, zs M' 22 l (nI vnew), rfl, fup gn2 l vnew, i, p2, by omega, ⟨fun k => ?_, fun k hk => ?_⟩, ?_, ?_, fq_zs h6 rfl⟩
        · by_cases hkl : k = l
          · rw [hkl, fup_eq]
            exact hv2
          · rw [fup_ne hkl]
            exact h3.1 k
        · by_cases hkl : k = l
          · rw [hkl, fup_eq, zs_eq]
          · rw [fup_ne hkl, zs_nk hkl]
            exact h3.2 k hk
        · rw [hv, hstep]
          exact hJ
        · rw [hv, hstep]
          exact hkeep
      have r : ∀ {c : Nat} {MM : zM} {K : Int32 → Option (Int32 × zM)}, rd MM c 30 (nI l) K = K (MM c l) := rd_ok l30 (by decide)
      have w : ∀ {c : Nat} {MM : zM} {x : Int32} {K : zM → Option (Int32 × zM)}, wr MM c 30 (nI l) x K = K (zs MM c l x) := wr_ok l30 (by decide)
      have qe2 : (nI e.2 = nI cc) ↔ e.2 = cc := nI_eq (by omega) (by omega)
      have hg0 : (nI (gn2 l) = 0) ↔ gn2 l = 0 := nI_eq (b := 0) (by omega) (by decide)
      rw [rd_ok (show cc < 12 by omega) (by decide), h6 23 cc (by omega), p3, r, hm.2]
      unfold fMd_oneMore_256 fMd_oneMore_288
      simp only [r, w, hgl, qe2, hg0, zs_nc (show ¬ 2 = 22 by decide), zs_nc (show ¬ 1 = 22 by decide), hm.1, hm.2]
      have hpe : e.2 = cc → e.1 = pp := fun z => by
        rcases gS_true p5 with ⟨u1, u2⟩ | ⟨u1, u2⟩
        · exact u1
        · exact absurd (u2.symm.trans z) hpc
      have hpe2 : ¬ e.2 = cc → e.2 = pp := fun z => by
        rcases gS_true p5 with ⟨u1, u2⟩ | ⟨u1, u2⟩
        · exact absurd u2 z
        · exact u2
      by_cases c1 : e.2 = cc
      · rw [if_neg (not_not_intro c1), hpe c1]
        by_cases c2 : gn2 l = 0
        · rw [if_pos c2, if_neg (show ¬ (1 : Int32) = 0 by decide)]
          exact fin 1 (by rw [if_neg (not_not_intro c2), if_pos c1])
        · rw [if_neg c2]
          exact fin 0 (by rw [if_pos c2])
      · rw [if_pos c1, hpe2 c1]
        by_cases c2 : gn2 l = 0
        · rw [if_pos c2]
          exact fin 2 (by rw [if_neg (not_not_intro c2), if_neg c1])
        · rw [if_neg c2]
          exact fin 0 (by rw [if_pos c2])
theorem finY {M M' : zM} (hW : gW n E) (hN : NetY M n E) {gn : Nat → Nat} (hG : GY M E gn) {aa bb : Nat} (hb : bb < n) {vv : Nat} (hI : flI n E aa bb (opG E gn) (vv : Int)) {QQ : List Nat} (h1 : RQ n aa QQ) (h3 : RPY E (opG E gn) (M' 23) QQ) (h4 : BY23 M' n QQ) (hcl : ∀ x y, x ∈ QQ → opG E gn x y = true → y ∈ QQ) (h7 : fq (fun c _ => c = 7 ∨ c = 23) M M') (fu i : Nat) (hi : QQ.length ≤ i) (hi2 : i ≤ 12) :
    ∃ M2, fq (fun c _ => c = 7 ∨ c = 22 ∨ c = 23) M M2 ∧ ((fMd_oneMore_43 (fu + 1) (nI aa) (nI bb) (nI QQ.length) (nI i) M' = some (0, M2) ∧ wayV n E aa bb vv) ∨ (fMd_oneMore_43 (fu + 1) (nI aa) (nI bb) (nI QQ.length) (nI i) M' = some (1, M2) ∧ ∃ gn2, GY M2 E gn2 ∧ flI n E aa bb (opG E gn2) ((vv : Int) + 1))) := by
  have hn := hW.1.2
  have f1 : fq (fun c _ => c = 7 ∨ c = 22 ∨ c = 23) M M' := fq_mono h7 (fun c k h => by omega)
  rw [fMd_oneMore_43, if_pos (nI_le hi (by omega)), rd_ok (show bb < 12 by omega) (by decide), zbl_0]
  simp only [h4 bb hb]
  by_cases hbQ : bb ∈ QQ
  · rw [if_pos hbQ]
    have hG' : GY M' E gn := ⟨hG.1, fun l hl => by rw [h7 22 l (by omega)]; exact hG.2 l hl⟩
    obtain ⟨gn2, M2, t1, t2, t3, t4⟩ := takeY hW (fq_netY h7 hN (fun k => by omega)) hG' h1 h3 hbQ hI
    exact ⟨M2, fq_tr f1 (fq_mono t4 (fun c k h => by omega)), Or.inr ⟨t1, gn2, t2, t3⟩⟩
  · rw [if_neg hbQ]
    exact ⟨M', f1, Or.inl ⟨rfl, opG E gn, fun x => decide (x ∈ QQ), hI, decide_eq_true (List.mem_of_getElem? h1.2.2), decide_eq_false hbQ, fun x y _ _ hx hxy => decide_eq_true (hcl x y (of_decide_eq_true hx) hxy)⟩⟩
theorem oneMore_ok {M : zM} (hW : gW n E) (hN : NetY M n E) {gn : Nat → Nat} (hG : GY M E gn) {aa bb : Nat} (ha : aa < n) (hb : bb < n) {vv : Nat} (hI : flI n E aa bb (opG E gn) (vv : Int)) :
    ∃ M2, fq (fun c _ => c = 7 ∨ c = 22 ∨ c = 23) M M2 ∧ ((fMd_oneMore (nI aa) (nI bb) M = some (0, M2) ∧ wayV n E aa bb vv) ∨ (fMd_oneMore (nI aa) (nI bb) M = some (1, M2) ∧ ∃ gn2, GY M2 E gn2 ∧ flI n E aa bb (opG E gn2) ((vv : Int) + 1))) := by
  have hn := hW.1.2
  rw [fMd_oneMore]
  refine lpE (f := fun fu k (_ : Unit) M => fMd_oneMore_2 fu (nI aa) (nI bb) (nI k) M) (n := n)
    (I := fun k _ M' => (∀ q, q < k → M' 23 q = -1) ∧ fq (fun c _ => c = 23) M M')
    (R := fun o => ∃ M2, fq (fun c _ => c = 7 ∨ c = 22 ∨ c = 23) M M2 ∧ ((o = some (0, M2) ∧ wayV n E aa bb vv) ∨ (o = some (1, M2) ∧ ∃ gn2, GY M2 E gn2 ∧ flI n E aa bb (opG E gn2) ((vv : Int) + 1)))) ?_ ?_ 0 FU () M (by omega) (fu_ok (by omega)) ⟨fun q h => by omega, fq_rf⟩
  · rintro fu - M0 ⟨g1, g2⟩
    have hN0 := fq_netY g2 hN (fun k => by omega)
    rw [fMd_oneMore_2, hN0.1, if_pos (nI_le (Nat.le_refl _) (by omega)), qlit0, wr_ok (show 0 < 12 by decide) (by decide), wr_ok (show aa < 12 by omega) (by decide)]
    have f0 : fq (fun c _ => c = 7 ∨ c = 23) M (zs (zs M0 7 0 (nI aa)) 23 aa 30) := fq_zs (fq_zs (fq_mono g2 (fun c k h => by omega)) (by omega)) (by omega)
    have s7 : ∀ j q : Nat, [aa][j]? = some q → (zs (zs M0 7 0 (nI aa)) 23 aa 30) 7 j = nI q := by
      intro j q hq
      cases j with
      | zero =>
        have : aa = q := Option.some.inj hq
        rw [zs_nc (by decide), zs_eq, this]
      | succ j => cases hq
    have sP : RPY E (opG E gn) ((zs (zs M0 7 0 (nI aa)) 23 aa 30) 23) [aa] := by
      intro j q hj hq
      cases j with
      | zero => omega
      | succ j => cases hq
    have sB : BY23 (zs (zs M0 7 0 (nI aa)) 23 aa 30) n [aa] := by
      intro q hq
      by_cases hqa : q = aa
      · rw [hqa, zs_eq]
        simp only [List.mem_singleton, iff_true]
        decide
      · rw [zs_nk hqa, zs_nc (by decide), g1 q hq]
        simp only [List.mem_singleton, hqa, iff_false]
        decide
    refine lpE (f := fun fu i (QQ : List Nat) M => fMd_oneMore_43 fu (nI aa) (nI bb) (nI QQ.length) (nI i) M) (n := 12)
      (I := fun i QQ M' => RQ n aa QQ ∧ (∀ j q : Nat, QQ[j]? = some q → M' 7 j = nI q) ∧ RPY E (opG E gn) (M' 23) QQ ∧ BY23 M' n QQ ∧ (∀ j x y : Nat, j < i → QQ[j]? = some x → opG E gn x y = true → y ∈ QQ) ∧ i ≤ QQ.length ∧ fq (fun c _ => c = 7 ∨ c = 23) M M')
      (R := fun o => ∃ M2, fq (fun c _ => c = 7 ∨ c = 22 ∨ c = 23) M M2 ∧ ((o = some (0, M2) ∧ wayV n E aa bb vv) ∨ (o = some (1, M2) ∧ ∃ gn2, GY M2 E gn2 ∧ flI n E aa bb (opG E gn2) ((vv : Int) + 1)))) ?_ ?_ 0 FU [aa] _ (by omega) (fu_ok (by omega)) ⟨⟨by simp, fun q hq => by simp at hq; omega, rfl⟩, s7, sP, sB, fun j x y hj => by omega, Nat.zero_le _, f0⟩
    · rintro fu QQ M' ⟨h1, h2, h3, h4, h5, h6, h7⟩
      exact finY hW hN hG hb hI h1 h3 h4 (fun x y hx hxy => by
        obtain ⟨j, hj⟩ := List.mem_iff_getElem?.mp hx
        exact h5 j x y (by have := (List.getElem?_eq_some_iff.mp hj).1; have := (RQ_len h1).1; omega) hj hxy) h7 fu 12 (by have := (RQ_len h1).1; omega) (by omega)
    · rintro fu i QQ M' hi ⟨h1, h2, h3, h4, h5, h6, h7⟩
      have hl := RQ_len h1
      by_cases hil : i < QQ.length
      · right
        have hp := getD_of hil
        generalize QQ.getD i 0 = pp at hp
        have hpm := List.mem_of_getElem? hp
        have hpn := h1.2.1 pp hpm
        obtain ⟨Q2, M2, i1, i2, i3, i4, i5, i6, i7, i8⟩ := lines_Y hW hN hG (v2 := nI bb) hpn hp h1 h2 h3 h4 h7 (fMd_oneMore_43 fu)
        have hil2 : i < Q2.length := (List.getElem?_eq_some_iff.mp (i6 i pp hp)).1
        refine ⟨Q2, M2, ?_, i2, i3, i4, i5, fun j x y hj hjx hxy => ?_, by omega, i8⟩
        · rw [fMd_oneMore_43, if_neg (nI_ge hil (by omega)), rd_ok hi (by decide), h2 i pp hp, i1]
        · by_cases hji : j = i
          · rw [hji, i6 i pp hp] at hjx
            rw [← Option.some.inj hjx] at hxy
            exact i7 y hxy
          · obtain ⟨x0, hx0⟩ : ∃ x0, QQ[j]? = some x0 := ⟨_, List.getElem?_eq_getElem (by omega)⟩
            rw [i6 j x0 hx0] at hjx
            rw [← Option.some.inj hjx] at hxy
            obtain ⟨j2, hj2⟩ := List.mem_iff_getElem?.mp (h5 j x0 y (by omega) hx0 hxy)
            exact List.mem_of_getElem? (i6 j2 y hj2)
      · left
        exact finY hW hN hG hb hI h1 h3 h4 (fun x y hx hxy => by
          obtain ⟨j, hj⟩ := List.mem_iff_getElem?.mp hx
          exact h5 j x y (by have := (List.getElem?_eq_some_iff.mp hj).1; omega) hj hxy) h7 fu i (by omega) (by omega)
  · rintro fu k - M' hk ⟨h1, h2⟩
    right
    have hN' := fq_netY h2 hN (fun k => by omega)
    refine ⟨(), zs M' 23 k (-1), ?_, fun q hq => ?_, fq_zs h2 rfl⟩
    · rw [fMd_oneMore_2, hN'.1, if_neg (nI_ge hk (by omega)), wr_ok (show k < 12 by omega) (by decide), nI_1]
    · by_cases hqk : q = k
      · rw [hqk, zs_eq]
      · rw [zs_nk hqk]
        exact h1 q (by omega)
end wyZ
theorem waysY_ok {M : zM} {n : Nat} {E : List (Nat × Nat)} (hW : gW n E) (hN : NetY M n E) {aa bb : Nat} (ha : aa < n) (hb : bb < n) (hab : ¬ aa = bb) : ∃ (vv : Nat) (M2 : zM), fMd_ways_31 FU (nI aa) (nI bb) 0 M = some (nI vv, M2) ∧ wayV n E aa bb vv ∧ fq (fun c _ => c = 7 ∨ c = 22 ∨ c = 23) M M2 := by
  have hl30 := hW.2.1
  refine lpE (f := fun fu l (_ : Unit) M => fMd_ways_31 fu (nI aa) (nI bb) (nI l) M) (n := E.length)
    (I := fun l _ M' => (∀ k, k < l → M' 22 k = 0) ∧ fq (fun c _ => c = 7 ∨ c = 22 ∨ c = 23) M M')
    (R := fun o => ∃ (vv : Nat) (M2 : zM), o = some (nI vv, M2) ∧ wayV n E aa bb vv ∧ fq (fun c _ => c = 7 ∨ c = 22 ∨ c = 23) M M2) ?_ ?_ 0 FU () M (by omega) (fu_ok (by omega)) ⟨fun k h => by omega, fq_rf⟩
  · rintro fu - M0 ⟨g1, g2⟩
    have hN0 := fq_netY g2 hN (fun k => by omega)
    rw [fMd_ways_31, hN0.2.1, if_pos (nI_le (by omega) (by omega))]
    have hop0 : opG E (fun _ => 0) = fun x y => gA E x y := by
      funext x y
      unfold opG
      simp
    refine lpE (f := fun fu k (_ : Unit) M => fMd_ways_54 fu (nI aa) (nI bb) (nI k) M) (n := 12)
      (I := fun k _ M' => (∃ gn, GY M' E gn ∧ flI n E aa bb (opG E gn) (k : Int)) ∧ fq (fun c _ => c = 7 ∨ c = 22 ∨ c = 23) M M')
      (R := fun o => ∃ (vv : Nat) (M2 : zM), o = some (nI vv, M2) ∧ wayV n E aa bb vv ∧ fq (fun c _ => c = 7 ∨ c = 22 ∨ c = 23) M M2) ?_ ?_ 0 FU () M0 (by omega) (fu_ok (by omega)) ⟨⟨fun _ => 0, ⟨fun _ => Nat.zero_le _, fun l hl => g1 l hl⟩, by rw [hop0]; exact flI_0⟩, g2⟩
    · rintro fu - M' ⟨⟨gn, h1, h2⟩, h3⟩
      have := flow_le hW ha hab h2
      omega
    · rintro fu k - M' hk ⟨⟨gn, h1, h2⟩, h3⟩
      obtain ⟨M2, o1, o2⟩ := oneMore_ok hW (fq_netY h3 hN (fun k => by omega)) h1 ha hb h2
      rw [fMd_ways_54]
      rcases o2 with ⟨p1, p2⟩ | ⟨p1, gn2, p2, p3⟩
      · left
        rw [p1, cl_some, if_pos rfl]
        exact ⟨k, M2, rfl, p2, fq_tr h3 o1⟩
      · right
        rw [p1, cl_some, if_neg (by decide), nI_1]
        refine ⟨(), M2, rfl, ⟨gn2, p2, ?_⟩, fq_tr h3 o1⟩
        rw [show ((k + 1 : Nat) : Int) = (k : Int) + 1 by omega]
        exact p3
  · rintro fu l - M' hl ⟨h1, h2⟩
    right
    have hN' := fq_netY h2 hN (fun k => by omega)
    refine ⟨(), zs M' 22 l 0, ?_, fun k hk => ?_, fq_zs h2 (by omega)⟩
    · rw [fMd_ways_31, hN'.2.1, if_neg (nI_ge hl (by omega)), wr_ok (show l < 30 by omega) (by decide), nI_1]
    · by_cases hkl : k = l
      · rw [hkl, zs_eq]
      · rw [zs_nk hkl]
        exact h1 k (by omega)
theorem st_ways (a0 a1 : Int32) : zStep Rl (fun M => fNN_ways a0 a1 M) (fun M => fMd_ways a0 a1 M) := by
  rintro Mx My t ht ⟨n, E, B, tx, an, pl, c, h⟩
  have hW := h.1
  have hn := hW.1.2
  have hX := h.2.2.2.2.1
  have hY := h.2.2.2.2.2.1
  rcases zin3_cases a0 (n := n) (by omega) with ⟨a, ha, rfl, h1⟩ | h1
  · rcases zin3_cases a1 (n := n) (by omega) with ⟨b, hb, rfl, h2⟩ | h2
    · have ex : fNN_ways (nI a) (nI b) Mx = if ¬ nI a = nI b then (cl (fCuts_separateWays (nI a) (nI b) Mx) fun r4 M3 => some (r4, M3)) else some (-1003, Mx) := by
        rw [fNN_ways, hasPosts_ok hX.1 hW, cl_some, h1, h2, Bool.and_true, bI_t, if_pos (by decide)]
      have ey : fMd_ways (nI a) (nI b) My = if ¬ nI a = nI b then fMd_ways_31 FU (nI a) (nI b) 0 My else some (-1003, My) := by
        rw [fMd_ways, noPost_ok hY hW, cl_some, h1, Bool.not_true, bI_f, if_neg (not_not_intro rfl), noPost_ok hY hW, cl_some, h2, Bool.not_true, bI_f, if_pos rfl]
      by_cases hab : a = b
      · refine ⟨-1003, Mx, My, ?_, ?_, Rl_same h⟩
        · show fNN_ways (nI a) (nI b) Mx = _
          rw [ex, if_neg (by rw [hab]; exact not_not_intro rfl)]
        · show fMd_ways (nI a) (nI b) My = _
          rw [ey, if_neg (by rw [hab]; exact not_not_intro rfl)]
      · have hne : ¬ nI a = nI b := fun z => hab ((nI_eq (by omega) (by omega)).mp z)
        obtain ⟨v1, M2, x1, x2, x3⟩ := separate_X hW hX.1 ha hb hab
        obtain ⟨v2, M3, y1, y2, y3⟩ := waysY_ok hW hY ha hb hab
        have hvv := wayV_one ha x2 y2
        rw [if_pos hne, x1, cl_some] at ex
        rw [if_pos hne, y1, ← hvv] at ey
        exact ⟨nI v1, M2, M3, ex, ey, Rl_rd h (fq_mono x3 (fun c k h => by omega)) (hX.2.1.fq x3 (fun c k _ _ => by omega) (by omega)) (fq_mono y3 (fun c k h => by omega))⟩
    · refine ⟨-1001, Mx, My, ?_, ?_, Rl_same h⟩
      · show fNN_ways (nI a) a1 Mx = _
        rw [fNN_ways, hasPosts_ok hX.1 hW, cl_some, h2, Bool.and_false, bI_f, if_neg (not_not_intro rfl)]
      · show fMd_ways (nI a) a1 My = _
        rw [fMd_ways, noPost_ok hY hW, cl_some, h1, Bool.not_true, bI_f, if_neg (not_not_intro rfl), noPost_ok hY hW, cl_some, h2, Bool.not_false, bI_t, if_neg (by decide)]
  · refine ⟨-1001, Mx, My, ?_, ?_, Rl_same h⟩
    · show fNN_ways a0 a1 Mx = _
      rw [fNN_ways, hasPosts_ok hX.1 hW, cl_some, h1, Bool.false_and, bI_f, if_neg (not_not_intro rfl)]
    · show fMd_ways a0 a1 My = _
      rw [fMd_ways, noPost_ok hY hW, cl_some, h1, Bool.not_false, bI_t, if_pos (by decide)]
