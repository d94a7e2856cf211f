/-! PURE: the stretch, in the reference; step stretch -/
section stY
variable {n : Nat} {E : List (Nat × Nat)}
theorem fw49_Y {hd pp : Nat} {M : zM} (hW : gW n E) (hN : NetY M n E) {SS : bS} (hS : bW n SS) (hp : SS.1[hd]? = some pp) (hB : SBY M n SS) (k41 : Int32 → Int32 → zM → Option (Unit × zM)) :
    ∃ M2, fMd_findWays_49 k41 FU (nI SS.1.length) (nI hd) 0 M = k41 (nI (bIn E pp (List.range' 0 n) SS).1.length) (nI (hd + 1)) M2 ∧ SBY M2 n (bIn E pp (List.range' 0 n) SS) ∧ fq (fun c _ => c = 7 ∨ c = 15) M M2 := by
  have hn := hW.1.2
  generalize hT : bIn E pp (List.range' 0 n) SS = tgt
  refine lpE (f := fun fu k (S2 : bS) M => fMd_findWays_49 k41 fu (nI S2.1.length) (nI hd) (nI k) M) (n := n)
    (I := fun k S2 M' => bIn E pp (List.range' k (n - k)) S2 = tgt ∧ bW n S2 ∧ S2.1[hd]? = some pp ∧ SBY M' n S2 ∧ fq (fun c _ => c = 7 ∨ c = 15) M M')
    (R := fun o => ∃ M2, o = k41 (nI tgt.1.length) (nI (hd + 1)) M2 ∧ SBY M2 n tgt ∧ fq (fun c _ => c = 7 ∨ c = 15) M M2) ?_ ?_ 0 FU SS M (by omega) (fu_ok (by omega)) ⟨hT, hS, hp, hB, fq_rf⟩
  · rintro fu S2 M' ⟨h1, h2, h3, h4, h5⟩
    rw [Nat.sub_self] at h1
    have h1 : S2 = tgt := h1
    have hN' := fq_netY h5 hN (fun k => by omega)
    rw [h1] at h4
    refine ⟨M', ?_, h4, h5⟩
    rw [fMd_findWays_49, hN'.1, if_pos (nI_le (by omega) (by omega)), nI_1, h1]
  · rintro fu k S2 M' hk ⟨h1, h2, h3, h4, h5⟩
    right
    have hN' := fq_netY h5 hN (fun k => by omega)
    have hpm : pp ∈ S2.1 := List.mem_of_getElem? h3
    have hpn := h2.2.1 pp hpm
    have hlen := h2.len
    have hhd : hd < S2.1.length := (List.getElem?_eq_some_iff.mp h3).1
    obtain ⟨dd, hdd⟩ : ∃ dd, n - k = dd + 1 := ⟨n - k - 1, by omega⟩
    rw [hdd, range'_cons, bIn, show dd = n - (k + 1) by omega] at h1
    have hneg := SBY_neg h2 hn h4 hk
    rw [fMd_findWays_49, hN'.1, if_neg (nI_ge hk (by omega)), rd_ok (show k < 12 by omega) (by decide), rd_ok (show hd < 12 by omega) (by decide), h4.1 hd pp h3, Md_lineOf_ok hN' hW (show pp < 12 by omega) (show k < 12 by omega), cl_some, nI_1, nI_1]
    simp only [hneg, gX_neg hW]
    by_cases hkS : k ∈ S2.1
    · rw [if_pos hkS]
      rw [if_neg (fun z => z.2 hkS)] at h1
      exact ⟨S2, M', rfl, h1, h2, h3, h4, h5⟩
    · rw [if_neg hkS]
      cases hg : gA E pp k with
      | false =>
        rw [if_pos rfl]
        rw [if_neg (by simp [hg])] at h1
        exact ⟨S2, M', rfl, h1, h2, h3, h4, h5⟩
      | true =>
        rw [if_neg (by decide)]
        rw [if_pos ⟨hg, hkS⟩] at h1
        have hW2 := bW_add h2 h3 hk hkS
        have hl2 := hW2.len
        have hl3 : S2.1.length + 1 ≤ n := by
          have : (bAdd pp k S2).1.length = S2.1.length + 1 := by simp [bAdd]
          omega
        rw [rd_ok (show hd < 12 by omega) (by decide), h4.1 hd pp h3, rd_ok (show pp < 12 by omega) (by decide), h4.2.1 pp hpm, nI_1, wr_ok (show k < 12 by omega) (by decide), wr_ok (show S2.1.length < 12 by omega) (by decide)]
        refine ⟨bAdd pp k S2, zs (zs M' 15 k (nI (S2.2 pp + 1))) 7 S2.1.length (nI k), ?_, h1, hW2, bE_get (bE_add hkS) h3, SBY_add h4 hpm hkS, fq_zs (fq_zs h5 (by omega)) (by omega)⟩
        show _ = fMd_findWays_49 k41 fu (nI (S2.1 ++ [k]).length) _ _ _
        rw [List.length_append]
        rfl
theorem ways_Y {M : zM} (hW : gW n E) (hN : NetY M n E) {aa : Nat} (ha : aa < n) : ∃ M2, fMd_findWays (nI aa) M = some ((), M2) ∧ SBY M2 n (bfs E n (fun _ _ => false) aa) ∧ fq (fun c _ => c = 7 ∨ c = 15) M M2 := by
  have hn := hW.1.2
  rw [fMd_findWays]
  refine lpE (f := fun fu k (_ : Unit) M => fMd_findWays_2 fu (nI aa) (nI k) M) (n := n)
    (I := fun k _ M' => (∀ q, q < k → M' 15 q = -1) ∧ fq (fun c _ => c = 15) M M')
    (R := fun o => ∃ M2, o = some ((), M2) ∧ SBY M2 n (bfs E n (fun _ _ => false) aa) ∧ fq (fun c _ => c = 7 ∨ c = 15) M M2) ?_ ?_ 0 FU () M (by omega) (fu_ok (by omega)) ⟨fun q h => by omega, fq_rf⟩
  · rintro fu - M0 ⟨g1, g2⟩
    have hN0 := fq_netY g2 hN (fun k => by omega)
    rw [fMd_findWays_2, hN0.1, if_pos (nI_le (Nat.le_refl _) (by omega)), wr_ok (show aa < 12 by omega) (by decide), qlit0, wr_ok (show 0 < 12 by decide) (by decide)]
    have f0 : fq (fun c _ => c = 7 ∨ c = 15) M (zs (zs M0 15 aa (nI 0)) 7 0 (nI aa)) := fq_zs (fq_zs (fq_mono g2 (fun c k h => by omega)) (by omega)) (by omega)
    have hB1 : SBY (zs (zs M0 15 aa (nI 0)) 7 0 (nI aa)) n ([aa], fun _ => 0) := by
      refine ⟨fun j q hq => ?_, fun q hq => ?_, fun q hq hqs => ?_⟩
      · cases j with
        | zero =>
          cases Option.some.inj hq
          rw [zs_eq]
        | succ j => cases hq
      · have : q = aa := by simpa using hq
        rw [this, zs_nc (by decide), zs_eq]
      · have : ¬ q = aa := by simpa using hqs
        rw [zs_nc (by decide), zs_nk this]
        exact g1 q hq
    refine lpE (f := fun fu k (S2 : bS) M => fMd_findWays_41 fu (nI S2.1.length) (nI k) M) (n := 12)
      (I := fun k S2 M' => bOut E n (fun _ _ => false) (12 - k) k S2 = bfs E n (fun _ _ => false) aa ∧ bW n S2 ∧ k ≤ S2.1.length ∧ SBY M' n S2 ∧ fq (fun c _ => c = 7 ∨ c = 15) M M')
      (R := fun o => ∃ M2, o = some ((), M2) ∧ SBY M2 n (bfs E n (fun _ _ => false) aa) ∧ fq (fun c _ => c = 7 ∨ c = 15) M M2) ?_ ?_ 0 FU ([aa], fun _ => 0) _ (by omega) (fu_ok (by omega)) ⟨rfl, bW_one ha, by simp, hB1, f0⟩
    · rintro fu S2 M' ⟨h1, h2, h3, h4, h5⟩
      have hlen := h2.len
      rw [Nat.sub_self] at h1
      have h1 : S2 = _ := h1
      refine ⟨M', ?_, by rw [← h1]; exact h4, h5⟩
      rw [fMd_findWays_41, if_pos (nI_le (by omega) (by omega))]
    · rintro fu k S2 M' hk ⟨h1, h2, h3, h4, h5⟩
      have hlen := h2.len
      have hN' := fq_netY h5 hN (fun k => by omega)
      obtain ⟨dd, hdd⟩ : ∃ dd, 12 - k = dd + 1 := ⟨12 - k - 1, by omega⟩
      rw [hdd, bOut, show dd = 12 - (k + 1) by omega] at h1
      by_cases hkl : k < S2.1.length
      · right
        rw [if_pos hkl] at h1
        have hp := getD_of hkl
        generalize S2.1.getD k 0 = pp at h1 hp
        rw [if_neg (by decide)] at h1
        obtain ⟨M2, e1, e2, e3⟩ := fw49_Y hW hN' h2 hp h4 (fMd_findWays_41 fu)
        have hbw := bIn_W (E := E) (List.range' 0 n) S2 (fun x hx => range'_lt hx (by omega)) h2 hp
        have hl2 : S2.1.length ≤ (bIn E pp (List.range' 0 n) S2).1.length := by
          obtain ⟨⟨s, hs⟩, -⟩ := hbw.2
          rw [hs, List.length_append]
          omega
        refine ⟨_, M2, ?_, h1, hbw.1, by omega, e2, fq_tr h5 e3⟩
        rw [fMd_findWays_41, if_neg (nI_ge hkl (by omega)), e1]
      · left
        rw [if_neg hkl] at h1
        refine ⟨M', ?_, by rw [← h1]; exact h4, h5⟩
        rw [fMd_findWays_41, if_pos (nI_le (by omega) (by omega))]
  · rintro fu k - M' hk ⟨h1, h2⟩
    right
    have hN' := fq_netY h2 hN (fun k => by omega)
    refine ⟨(), zs M' 15 k (-1), ?_, fun q hq => ?_, fq_zs h2 rfl⟩
    · rw [fMd_findWays_2, hN'.1, if_neg (nI_ge hk (by omega)), wr_ok (show k < 12 by omega) (by decide), nI_1]
    · by_cases hqk : q = k
      · rw [hqk, zs_eq]
      · rw [zs_nk hqk]
        exact h1 q (by omega)
/-- the way row after it, by lengths and distances -/
theorem way_row {M : zM} (hW : gW n E) {aa b : Nat} (ha : aa < n) (hb : b < n) (hB : SBY M n (bfs E n (fun _ _ => false) aa)) : (gLen n E aa b = none ∧ M 15 b = -1) ∨ ∃ L d, gLen n E aa b = some L ∧ M 15 b = nI d ∧ gDst n E aa b = d ∧ d < n := by
  obtain ⟨z1, z2, z3, z4⟩ := bfs_Z hW ha (fun _ _ => false)
  by_cases hr : tR (gTree n E) aa = tR (gTree n E) b
  · right
    have hL : gLen n E aa b = some (popc (tA (gTree n E) aa ^^^ tA (gTree n E) b)) := by
      unfold gLen
      rw [if_pos hr]
    obtain ⟨d, d1, d2, -⟩ := gLen_dst hW ha hb hL
    obtain ⟨c1, c2⟩ := bfs_all hW ha d b d1.1
    have hw := z3 b c1
    have hwd : (bfs E n (fun _ _ => false) aa).2 b = d := by
      rcases Nat.lt_or_ge ((bfs E n (fun _ _ => false) aa).2 b) d with z | z
      · exact absurd hw (d1.2 _ z)
      · omega
    exact ⟨_, d, hL, by rw [hB.2.1 b c1, hwd], d2, isD_lt hW ha d1⟩
  · left
    refine ⟨by unfold gLen; rw [if_neg hr], hB.2.2 b hb (fun z => hr ((conn_iff hW ha hb).mpr ⟨_, z3 b z⟩))⟩
theorem SNY_fq {M M2 : zM} (h : SNY M n E) (hf : fq (fun c _ => c = 7 ∨ c = 15) M M2) : SNY M2 n E := ⟨(hf 0 0 (by omega)).trans h.1, SY.fq h.2.1 hf (fun k => by omega), fun x hx => ⟨(hf 8 x (by omega)).trans (h.2.2 x hx).1, (hf 9 x (by omega)).trans (h.2.2 x hx).2⟩⟩
theorem st52_Y {M : zM} (hW : gW n E) (hS : SNY M n E) {aa : Nat} (ha : aa < n) (hB : SBY M n (bfs E n (fun _ _ => false) aa)) {ss : sT} (hsB : stB ss) (v1 : Int32) (k34 : Int32 → Int32 → Int32 → Int32 → Int32 → Int32 → zM → Option (Int32 × zM)) :
    fMd_stretch_52 k34 FU v1 (nI ss.1) (nI ss.2.1) (oI ss.2.2.1) (oI ss.2.2.2) (nI aa) 0 M = k34 v1 (nI (stI n E aa (List.range' 0 n) ss).1) (nI (stI n E aa (List.range' 0 n) ss).2.1) (oI (stI n E aa (List.range' 0 n) ss).2.2.1) (oI (stI n E aa (List.range' 0 n) ss).2.2.2) (nI (aa + 1)) M ∧ stB (stI n E aa (List.range' 0 n) ss) := by
  have hn := hW.1.2
  generalize hT : stI n E aa (List.range' 0 n) ss = tgt
  refine lpE (f := fun fu b (s2 : sT) M => fMd_stretch_52 k34 fu v1 (nI s2.1) (nI s2.2.1) (oI s2.2.2.1) (oI s2.2.2.2) (nI aa) (nI b) M) (n := n)
    (I := fun b s2 M' => M' = M ∧ stI n E aa (List.range' b (n - b)) s2 = tgt ∧ stB s2)
    (R := fun o => o = k34 v1 (nI tgt.1) (nI tgt.2.1) (oI tgt.2.2.1) (oI tgt.2.2.2) (nI (aa + 1)) M ∧ stB tgt) ?_ ?_ 0 FU ss M (by omega) (fu_ok (by omega)) ⟨rfl, hT, hsB⟩
  · rintro fu s2 M' ⟨rfl, h1, h2⟩
    rw [Nat.sub_self] at h1
    have h1 : s2 = tgt := h1
    rw [h1] at h2 ⊢
    refine ⟨?_, h2⟩
    rw [fMd_stretch_52, hS.1, if_pos (nI_le (by omega) (by omega)), nI_1]
  · rintro fu b s2 M' hb ⟨rfl, h1, h2⟩
    right
    obtain ⟨dd, hdd⟩ : ∃ dd, n - b = dd + 1 := ⟨n - b - 1, by omega⟩
    rw [hdd, range'_cons, stI, show dd = n - (b + 1) by omega] at h1
    have hOB := stO_B hW ha hb h2
    have skip : fMd_stretch_90 (fMd_stretch_52 k34 fu) v1 (nI s2.1) (nI s2.2.1) (oI s2.2.2.1) (oI s2.2.2.2) (nI aa) (nI b) 0 M' = fMd_stretch_52 k34 fu v1 (nI s2.1) (nI s2.2.1) (oI s2.2.2.1) (oI s2.2.2.2) (nI aa) (nI (b + 1)) M' := by
      rw [fMd_stretch_90, if_pos (by decide), nI_1]
    rw [fMd_stretch_52, hS.1, if_neg (nI_ge hb (by omega)), rd_ok (show b < 12 by omega) (by decide), goesOf_ok hW hS ha hb, cl_some, skip]
    unfold stO at h1 hOB
    by_cases hab : aa = b
    · rw [if_pos (by rw [hab])]
      rw [if_pos hab] at h1
      exact ⟨s2, M', rfl, rfl, h1, h2⟩
    · rw [if_neg (fun z => hab ((nI_eq (by omega) (by omega)).mp z))]
      rw [if_neg hab] at h1 hOB
      rcases way_row hW ha hb hB with ⟨q1, q2⟩ | ⟨L, d, q1, q2, q3, q4⟩
      · rw [q2, if_neg (by decide)]
        rw [q1] at h1
        exact ⟨s2, M', rfl, rfl, h1, h2⟩
      · have hL32 := gLen_le q1
        have hLp := gLen_pos hW ha hb hab q1
        rw [q2, if_pos (nI_ge0 (by omega)), q1]
        rw [q1] at h1 hOB
        simp only at h1 hOB
        rw [q3] at h1 hOB
        obtain ⟨b1, b2, b3, b4, b5⟩ := h2
        have m1 : s2.1 * d ≤ 32 * 2000 := Nat.mul_le_mul b1 (by omega)
        have m2 : L * s2.2.1 ≤ 32 * 2000 := Nat.mul_le_mul hL32 (by omega)
        have take : fMd_stretch_118 (fMd_stretch_52 k34 fu) v1 (nI aa) (nI b) (nI L) M' = fMd_stretch_52 k34 fu v1 (nI L) (nI d) (oI (some aa)) (oI (some b)) (nI aa) (nI (b + 1)) M' := by
          rw [fMd_stretch_118, rd_ok (show b < 12 by omega) (by decide), q2, nI_1]
          rfl
        show ∃ s2_1 M2, fMd_stretch_90 (fMd_stretch_52 k34 fu) v1 (nI s2.1) (nI s2.2.1) (oI s2.2.2.1) (oI s2.2.2.2) (nI aa) (nI b) (nI L) M' = _ ∧ _
        rw [fMd_stretch_90, if_neg (nI_nle hLp (by omega)), take, rd_ok (show b < 12 by omega) (by decide), q2, nI_times, nI_times, nI_1]
        by_cases hlt : s2.1 * d < L * s2.2.1
        · rw [if_pos hlt] at h1 hOB
          rw [if_neg (nI_ge hlt (by omega)), ite_self]
          exact ⟨(L, d, some aa, some b), M', rfl, rfl, h1, hOB⟩
        · rw [if_neg hlt] at h1 hOB
          have hsome : ∃ k0, s2.2.2.1 = some k0 := by
            cases hc : s2.2.2.1 with
            | some k0 => exact ⟨k0, rfl⟩
            | none =>
              exfalso
              obtain ⟨c1, c2⟩ := b4 hc
              rw [c1, c2] at hlt
              omega
          obtain ⟨k0, hk0⟩ := hsome
          have hneg : ¬ oI s2.2.2.1 < 0 := by
            rw [hk0]
            exact nI_nlt0 (by have := b5 k0 hk0; omega)
          rw [if_pos (nI_le (by omega) (by omega)), if_neg hneg]
          exact ⟨s2, M', rfl, rfl, h1, hOB⟩
theorem euclid_Y {v1 v2 v3 v4 v5 : Int32} {M : zM} : ∀ (y x fu : Nat), y < 2000 → x < 2000 → y < fu → fMd_stretch_155 fu v1 v2 v3 v4 v5 (nI x) (nI y) M = fMd_stretch_155 1 v1 v2 v3 v4 v5 (nI (Nat.gcd x y)) (nI 0) M := by
  intro y
  induction y using Nat.strongRecOn with
  | ind y ih =>
    intro x fu hy hx hf
    obtain ⟨fu, rfl⟩ : ∃ k, fu = k + 1 := ⟨fu - 1, by omega⟩
    rcases Nat.eq_zero_or_pos y with z | z
    · rw [z, Nat.gcd_zero_right, fMd_stretch_155, fMd_stretch_155, if_pos (show nI 0 = 0 from rfl), if_pos (show nI 0 = 0 from rfl)]
    · have hm : x % y < y := Nat.mod_lt _ z
      rw [fMd_stretch_155, if_neg (nI_ne0 z (by omega)), zmod_ok (by omega) z (by omega), ih (x % y) hm y fu (by omega) (by omega) (by omega), Nat.gcd_comm x y, Nat.gcd_rec y x, Nat.gcd_comm (x % y) y]
theorem st34_Y {M : zM} (hW : gW n E) (hN : NetY M n E) (hS : SNY M n E) (v1 : Int32) : ∃ M2, fMd_stretch_34 FU v1 0 1 (-1) (-1) 0 M = fMd_stretch_155 FU v1 (nI (gSt n E).1) (nI (gSt n E).2.1) (oI (gSt n E).2.2.1) (oI (gSt n E).2.2.2) (nI (gSt n E).1) (nI (gSt n E).2.1) M2 ∧ stB (gSt n E) ∧ fq (fun c _ => c = 7 ∨ c = 15) M M2 := by
  have hn := hW.1.2
  refine lpE (f := fun fu a (s2 : sT) M => fMd_stretch_34 fu v1 (nI s2.1) (nI s2.2.1) (oI s2.2.2.1) (oI s2.2.2.2) (nI a) M) (n := n)
    (I := fun a s2 M' => stA n E (List.range' a (n - a)) s2 = gSt n E ∧ stB s2 ∧ fq (fun c _ => c = 7 ∨ c = 15) M M')
    (R := fun o => ∃ M2, o = fMd_stretch_155 FU v1 (nI (gSt n E).1) (nI (gSt n E).2.1) (oI (gSt n E).2.2.1) (oI (gSt n E).2.2.2) (nI (gSt n E).1) (nI (gSt n E).2.1) M2 ∧ stB (gSt n E) ∧ fq (fun c _ => c = 7 ∨ c = 15) M M2) ?_ ?_ 0 FU (0, 1, none, none) M (by omega) (fu_ok (by omega)) ⟨rfl, ⟨by decide, by decide, by decide, fun _ => ⟨rfl, rfl⟩, fun k0 hk => (by cases hk)⟩, fq_rf⟩
  · rintro fu s2 M' ⟨h1, h2, h3⟩
    rw [Nat.sub_self] at h1
    have h1 : s2 = gSt n E := h1
    rw [h1] at h2 ⊢
    refine ⟨M', ?_, h2, h3⟩
    rw [fMd_stretch_34, h3 0 0 (by omega), hN.1, if_pos (nI_le (by omega) (by omega))]
  · rintro fu a s2 M' ha ⟨h1, h2, h3⟩
    right
    obtain ⟨dd, hdd⟩ : ∃ dd, n - a = dd + 1 := ⟨n - a - 1, by omega⟩
    rw [hdd, range'_cons, stA, show dd = n - (a + 1) by omega] at h1
    obtain ⟨M2, e1, e2, e3⟩ := ways_Y hW (fq_netY h3 hN (fun k => by omega)) ha
    have f2 := fq_tr h3 e3
    obtain ⟨g1, g2⟩ := st52_Y hW (SNY_fq hS f2) ha e2 h2 v1 (fMd_stretch_34 fu)
    refine ⟨_, M2, ?_, h1, g2, f2⟩
    rw [fMd_stretch_34, h3 0 0 (by omega), hN.1, if_neg (nI_ge ha (by omega)), e1, cl_some, g1]
end stY
theorem st_stretch (a0 : Int32) : zStep Rl (fun M => fNN_stretch a0 M) (fun M => fMd_stretch a0 M) := by
  rintro Mx My t ht ⟨n, E, B, tx, an, pl, c, h⟩
  have hW := h.1
  have hX := h.2.2.2.2.1
  have hY := h.2.2.2.2.2
  rcases zin3_cases a0 (n := 4) (by decide) with ⟨j, hj, rfl, h1⟩ | h1
  · obtain ⟨M2, x1, x2, x3, x4, x5, x6⟩ := pfresh_X hW hX.1 hX.2.1 hX.2.2.1 hX.2.2.2.2.1
    obtain ⟨M3, y1, y2, y3⟩ := names0_Y hW hY.1
    obtain ⟨M4, z1, z2, z3⟩ := st34_Y hW (fq_netY y3 hY.1 (fun k => by omega)) y2 (nI j)
    obtain ⟨b1, b2, b3, -⟩ := z2
    have hg : 0 < Nat.gcd (gSt n E).1 (gSt n E).2.1 := Nat.gcd_pos_of_pos_right _ (by omega)
    have hgl : Nat.gcd (gSt n E).1 (gSt n E).2.1 ≤ (gSt n E).2.1 := Nat.gcd_le_right _ (by omega)
    rw [euclid_Y (gSt n E).2.1 (gSt n E).1 FU (by omega) (by omega) (fu_ok (by omega))] at z1
    have hR : Rl M2 M4 (t + 1) := by
      obtain ⟨g1, g2, g3, g4, g5, g6, g7, g8⟩ := hX
      refine ⟨n, E, B, tx, an, pl, c, hW, by have := h.2.1; omega, h.2.2.1, h.2.2.2.1, ⟨x3, x4, g3.fq x6 (fun c k _ _ => by omega), (x6 1 2 (by omega)).trans g4, fun _ => x2, ?_, BX_fq g7 x6 (fun c k _ _ => by omega), scX_fq g8 x6 (fun k => by omega)⟩, InvY_rd hY (fq_tr y3 (fq_mono z3 (fun c k h => by omega)))⟩
      rcases x5 with q | q
      · rw [q]
        exact g6
      · rw [q, g4]
        exact tk_now c
    have ey : fMd_stretch (nI j) My = fMd_stretch_155 1 (nI j) (nI (gSt n E).1) (nI (gSt n E).2.1) (oI (gSt n E).2.2.1) (oI (gSt n E).2.2.2) (nI (Nat.gcd (gSt n E).1 (gSt n E).2.1)) (nI 0) M4 := by
      rw [fMd_stretch, in03, cl_some, h1, bI_t, if_pos (by decide), y1, cl_some, z1]
    rw [fMd_stretch_155, if_pos (show nI 0 = 0 from rfl), zdiv_ok (by omega) hg (by omega), zdiv_ok (by omega) hg (by omega)] at ey
    obtain q | q | q | q : j = 0 ∨ j = 1 ∨ j = 2 ∨ j = 3 := by omega
    · subst q
      refine ⟨nI (gStr n E).1, M2, M4, ?_, ?_, hR⟩
      · show fNN_stretch (nI 0) Mx = _
        rw [fNN_stretch, zsw_nI (j := 0) rfl, x1, cl_some, if_pos rfl, x2.1]
      · show fMd_stretch (nI 0) My = _
        rw [ey, if_neg (show ¬ ¬ nI 0 = 0 from not_not_intro rfl)]
        rfl
    · subst q
      refine ⟨nI (gStr n E).2.1, M2, M4, ?_, ?_, hR⟩
      · show fNN_stretch (nI 1) Mx = _
        rw [fNN_stretch, zsw_nI (j := 1) rfl, x1, cl_some, if_pos rfl, x2.2.1]
      · show fMd_stretch (nI 1) My = _
        rw [ey, if_pos (show ¬ nI 1 = 0 by decide), if_neg (show ¬ ¬ nI 1 = 1 from not_not_intro rfl)]
        rfl
    · subst q
      refine ⟨oI (gStr n E).2.2.1, M2, M4, ?_, ?_, hR⟩
      · show fNN_stretch (nI 2) Mx = _
        rw [fNN_stretch, zsw_nI (j := 2) rfl, x1, cl_some, if_pos rfl, x2.2.2.1]
      · show fMd_stretch (nI 2) My = _
        rw [ey, if_pos (show ¬ nI 2 = 0 by decide), if_pos (show ¬ nI 2 = 1 by decide), if_neg (show ¬ ¬ nI 2 = 2 from not_not_intro rfl)]
        rfl
    · subst q
      refine ⟨oI (gStr n E).2.2.2, M2, M4, ?_, ?_, hR⟩
      · show fNN_stretch (nI 3) Mx = _
        rw [fNN_stretch, zsw_nI (j := 3) rfl, x1, cl_some, if_pos rfl, x2.2.2.2]
      · show fMd_stretch (nI 3) My = _
        rw [ey, if_pos (show ¬ nI 3 = 0 by decide), if_pos (show ¬ nI 3 = 1 by decide), if_pos (show ¬ nI 3 = 2 by decide)]
        rfl
  · refine ⟨-1002, Mx, My, ?_, ?_, Rl_same h⟩
    · show fNN_stretch a0 Mx = _
      rw [fNN_stretch]
      exact zsw_def _ 0 (fun j hj => not_small (k := 4) (by decide) h1 j hj)
    · show fMd_stretch a0 My = _
      rw [fMd_stretch, in03, cl_some, h1, bI_f, if_neg (not_not_intro rfl)]
