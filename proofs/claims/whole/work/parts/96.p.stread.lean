/-! PURE: reading, the step -/
section srS
variable {tx : List Nat} {n : Nat} {E : List (Nat × Nat)}
theorem read_X (ht : tOk tx) (hW : gW n E) {M : zM} {an : List Int32} {pl : Int32} (hN : NetX M n E) (hs : scX M tx an pl) : ∃ M2, fScript_readAll M = some (M2 56 4, M2) ∧ fq zBx M M2 ∧ M2 56 2 = 0 ∧ oRx M2 (pR tx n E.length 14 [] (rnB blk tx 0)) := by
  have hf4 : fq (fun c k => c = 56 ∧ 3 ≤ k ∧ k ≤ 6) M (zs (zs (zs (zs M 56 5 0) 56 4 0) 56 3 (-1)) 56 6 0) := fq_zs (fq_zs (fq_zs (fq_zs fq_rf (by omega)) (by omega)) (by omega)) (by omega)
  have e5 : (zs (zs (zs (zs M 56 5 0) 56 4 0) 56 3 (-1)) 56 6 0) 56 5 = nI 0 := by
    rw [zs_ne (by omega), zs_ne (by omega), zs_ne (by omega), zs_eq]
    rfl
  have e4 : (zs (zs (zs (zs M 56 5 0) 56 4 0) 56 3 (-1)) 56 6 0) 56 4 = 0 := by
    rw [zs_ne (by omega), zs_ne (by omega), zs_eq]
  have e3 : (zs (zs (zs (zs M 56 5 0) 56 4 0) 56 3 (-1)) 56 6 0) 56 3 = -1 := by
    rw [zs_ne (by omega), zs_eq]
  have e6 : (zs (zs (zs (zs M 56 5 0) 56 4 0) 56 3 (-1)) 56 6 0) 56 6 = nI 0 := zs_eq
  rw [fScript_readAll, wf_eq, wf_eq, wf_eq, wf_eq]
  generalize zs (zs (zs (zs M 56 5 0) 56 4 0) 56 3 (-1)) 56 6 0 = M4 at hf4 e5 e4 e3 e6 ⊢
  obtain ⟨M5, b1, b2, b3⟩ := skip_X (p := 0) ht (Nat.zero_le _) ⟨(hf4 _ _ (by omega)).trans hs.1, fun i b hi => (hf4 _ _ (by omega)).trans (hs.2.1 i b hi), e5⟩
  have hf5 : fq zBx M M5 := fun c k hc => (b3 c k (by omega)).trans (hf4 c k (by omega))
  obtain ⟨M6, c1, c2, c3, c4⟩ := readAll_X ht hW 14 FU [] (rnB blk tx 0) M5 (by simp) (by decide) (by simp) (rnB_le (Nat.zero_le _)) b2 (fq_net hf5 hN (fun k => by omega)) ((b3 _ _ (by omega)).trans e4) ((b3 _ _ (by omega)).trans e3) ((b3 _ _ (by omega)).trans e6) (fun j w acc hj => by simp at hj)
  rw [b1, cl_some]
  exact ⟨M6, c1, fq_tr hf5 c2, c3, c4⟩
theorem read_Y (ht : tOk tx) (hW : gW n E) {M : zM} {an : List Int32} {pl : Int32} (hN : NetY M n E) (hs : scY M tx an pl) : ∃ M2, fMd_read M = fMd_read_41 M2 ∧ fq zAy M M2 ∧ oRy M2 n E (pR tx n E.length 14 [] (rnB blk tx 0)) := by
  have hf4 : fq zAy M (zs (zs (zs (zs M 0 30 0) 0 31 0) 0 32 (-1)) 0 38 0) := fq_zs (fq_zs (fq_zs (fq_zs fq_rf (by omega)) (by omega)) (by omega)) (by omega)
  have e5 : (zs (zs (zs (zs M 0 30 0) 0 31 0) 0 32 (-1)) 0 38 0) 0 30 = nI 0 := by
    rw [zs_ne (by omega), zs_ne (by omega), zs_ne (by omega), zs_eq]
    rfl
  have e4 : (zs (zs (zs (zs M 0 30 0) 0 31 0) 0 32 (-1)) 0 38 0) 0 31 = 0 := by
    rw [zs_ne (by omega), zs_ne (by omega), zs_eq]
  have e3 : (zs (zs (zs (zs M 0 30 0) 0 31 0) 0 32 (-1)) 0 38 0) 0 32 = -1 := by
    rw [zs_ne (by omega), zs_eq]
  have e6 : (zs (zs (zs (zs M 0 30 0) 0 31 0) 0 32 (-1)) 0 38 0) 0 38 = nI 0 := zs_eq
  rw [fMd_read, wf_eq, wf_eq, wf_eq, wf_eq]
  generalize zs (zs (zs (zs M 0 30 0) 0 31 0) 0 32 (-1)) 0 38 0 = M4 at hf4 e5 e4 e3 e6 ⊢
  obtain ⟨M6, c1, c2, c3⟩ := readAll_Y ht hW 14 FU [] 0 M4 (by simp) (by decide) (by simp) (Nat.zero_le _) ⟨(hf4 _ _ (by omega)).trans hs.1, fun i b hi => (hf4 _ _ (by omega)).trans (hs.2.1 i b hi), e5⟩ (fq_netY hf4 hN (fun k => by omega)) e4 e3 e6 (fun j w acc a b hj => by simp at hj)
  exact ⟨M6, c1, fq_tr hf4 c2, c3⟩
end srS
theorem st_read : zStep Rl (fun M => fNN_read M) (fun M => fMd_read M) := by
  rintro Mx My t ht ⟨n, E, B, tx, an, pl, c, h⟩
  have hW := h.1
  have hO := h.2.2.2.1
  have hX := h.2.2.2.2.1
  have hY := h.2.2.2.2.2
  have hsX := hX.2.2.2.2.2.2.2
  have hsY := hY.2.2
  have hT : tOk tx := ⟨hO.1, hO.2.1⟩
  obtain ⟨M1, x1, x2, x3, x4⟩ := read_X hT hW hX.1 hsX
  obtain ⟨M2, y1, y2, y4⟩ := read_Y hT hW hY.1 hsY
  have ok := pR_ok (tx := tx) (n := n) (m := E.length) 14 [] (rnB blk tx 0) (rnB_le (Nat.zero_le _)) (by simp) (fun x hx => by simp at hx)
  obtain ⟨g1, g2, g3, g4, g5, g6, g7, g8⟩ := hX
  have ct := h.2.1
  have hf3 : fq (fun c k => c = 0 ∧ k = 29) M2 (zs M2 0 29 0) := fq_zs fq_rf ⟨rfl, rfl⟩
  cases hR : pR tx n E.length 14 [] (rnB blk tx 0) with
  | inl x =>
    obtain ⟨k, po⟩ := x
    rw [hR] at x4 y4
    obtain ⟨hk1, hk2⟩ := ok.1 k po hR
    have x4a : M1 56 4 = nI k := x4.1
    have x4b : M1 56 3 = nI po := x4.2
    have y4a : M2 0 31 = nI k := y4.1
    have y4b : M2 0 32 = nI po := y4.2
    refine ⟨-10 - nI k, M1, zs M2 0 29 0, ?_, ?_, n, E, B, [], an, nI po, c, hW, by omega, h.2.2.1, ⟨by simp, fun b hb => by simp at hb, hO.2.2⟩, ?_, ?_⟩
    · show fNN_read Mx = _
      rw [fNN_read, x1, cl_some, x4a, if_neg]
      intro z
      have := (nI_eq (b := 0) (by omega) (by omega)).mp z
      omega
    · show fMd_read My = _
      rw [y1, fMd_read_41, wf_eq, hf3 0 31 (by omega), y4a, if_neg (show ¬ nI k ≤ 0 from nI_ge (a := 0) (b := k) (by omega) (by omega))]
    · exact ⟨fq_net x2 g1 (fun k => by omega), g2.fq x2 (fun c k _ _ => by omega) (by omega), g3.fq x2 (fun c k _ _ => by omega), (x2 1 2 (by omega)).trans g4, PX_fq g5 x2 (by omega) (fun k => by omega), by rw [x2 48 7 (by omega)]; exact g6, BX_fq g7 x2 (fun c k _ _ => by omega), ⟨x3, fun i b hi => by simp at hi, x4b, (x2 _ _ (by omega)).trans g8.2.2.2.1, fun i r hi => (x2 _ _ (by omega)).trans (g8.2.2.2.2 i r hi)⟩⟩
    · have y5 : fq (fun c k => zAy c k ∨ (c = 0 ∧ k = 29)) My (zs M2 0 29 0) := fun c k hc => (hf3 c k (by omega)).trans (y2 c k (by omega))
      exact ⟨fq_netY y5 hY.1 (fun k => by omega), BY_fq hY.2.1 y5 (fun c k _ _ => by omega), ⟨zs_eq, fun i b hi => by simp at hi, (hf3 _ _ (by omega)).trans y4b, (y5 _ _ (by omega)).trans hsY.2.2.2.1, fun i r hi => (y5 _ _ (by omega)).trans (hsY.2.2.2.2 i r hi)⟩⟩
  | inr Q =>
    rw [hR] at x4 y4
    obtain ⟨q1, q2⟩ := ok.2 Q hR
    obtain ⟨u1, u2, u3, u4⟩ := x4
    obtain ⟨v1, v2, v3, v4⟩ := y4
    have hf6 : fq (fun c k => c = 56 ∧ k = 11) M1 (zs M1 56 11 (nI Q.length)) := fq_zs fq_rf ⟨rfl, rfl⟩
    have w11 : (zs M1 56 11 (nI Q.length)) 56 11 = nI Q.length := zs_eq
    have x5 : fq (fun c k => zBx c k ∨ (c = 56 ∧ k = 11)) Mx (zs M1 56 11 (nI Q.length)) := fun c k hc => (hf6 c k (by omega)).trans (x2 c k (by omega))
    have ex : fNN_read Mx = fNN_read_33 FU 0 (zs M1 56 11 (nI Q.length)) := by
      rw [fNN_read, x1, cl_some, u1, if_pos rfl, wf_eq, u3]
    generalize zs M1 56 11 (nI Q.length) = M3 at hf6 w11 x5 ex
    obtain ⟨M4, z1, z2, z3, z4⟩ := fill_X hW q1 q2 (fq_net x5 g1 (fun k => by omega)) (g2.fq x5 (fun c k _ _ => by omega) (by omega)) (g3.fq x5 (fun c k _ _ => by omega)) ((hf6 _ _ (by omega)).trans u3) (fun j w acc hj => by
      rw [hf6 58 j (by omega), hf6 59 j (by omega), hf6 60 j (by omega), hf6 61 j (by omega)]
      exact u4 j w acc hj)
    have ey : fMd_read My = fMd_read_63 FU 0 (zs M2 0 29 0) := by
      rw [y1, fMd_read_41, wf_eq, hf3 0 31 (by omega), v1, if_pos (by decide)]
    have y5 : fq (fun c k => zAy c k ∨ (c = 0 ∧ k = 29)) My (zs M2 0 29 0) := fun c k hc => (hf3 c k (by omega)).trans (y2 c k (by omega))
    have y29 : (zs M2 0 29 0) 0 29 = 0 := zs_eq
    generalize zs M2 0 29 0 = M5 at hf3 y5 y29 ey
    obtain ⟨M6, s1, s2, s3, s4⟩ := fill_Y q1 ((hf3 0 38 (by omega)).trans v3)
    have x6 : fq (fun c k => zBx c k ∨ (c = 56 ∧ k = 11) ∨ zFx c k) Mx M4 := fun c k hc => (z2 c k (by omega)).trans (x5 c k (by omega))
    have y6 : fq (fun c k => zAy c k ∨ (c = 0 ∧ k = 29) ∨ c = 26 ∨ (c = 0 ∧ k = 35)) My M6 := fun c k hc => (s2 c k (by omega)).trans (y5 c k (by omega))
    have same : ∀ j, j < Q.length → M4 62 j = M6 26 j := fun j hj => by
      obtain ⟨⟨w, acc⟩, hx⟩ : ∃ x, Q[j]? = some x := ⟨_, List.getElem?_eq_getElem hj⟩
      obtain ⟨o1, o2, o3, o4⟩ := q2 (w, acc) (List.mem_of_getElem? hx)
      obtain ⟨a, ha⟩ : ∃ a, acc[0]? = some a := ⟨_, List.getElem?_eq_getElem (show 0 < acc.length from Nat.lt_of_lt_of_le (by decide) o2)⟩
      obtain ⟨b, hb⟩ : ∃ b, acc[1]? = some b := ⟨_, List.getElem?_eq_getElem (show 1 < acc.length from Nat.lt_of_lt_of_le (by decide) o2)⟩
      have r1 := z4 j w acc a b hx ha hb
      have r2 := v4 j w acc a b hx ha hb
      rw [s4 j hj, hf3 27 j (by omega)]
      exact qA_one hW (show w < 5 from o1) (show b < n from o4 1 b hb) r1 r2
    have lA : ((List.range Q.length).map (fun j => M4 62 j)).length = Q.length := by simp
    have gA : ∀ (i : Nat) (r : Int32), ((List.range Q.length).map (fun j => M4 62 j))[i]? = some r → i < Q.length ∧ M4 62 i = r := fun i r hi => by
      have hi2 : i < Q.length := by
        have := (List.getElem?_eq_some_iff.mp hi).1
        omega
      refine ⟨hi2, ?_⟩
      rw [List.getElem?_map, List.getElem?_range hi2] at hi
      exact Option.some.inj hi
    generalize (List.range Q.length).map (fun j => M4 62 j) = an2 at lA gA
    refine ⟨nI Q.length, M4, M6, ?_, ?_, n, E, B, [], an2, -1, c, hW, by omega, h.2.2.1, ⟨by simp, fun b hb => by simp at hb, by omega⟩, ?_, ?_⟩
    · show fNN_read Mx = _
      rw [ex, z1, w11]
    · show fMd_read My = _
      rw [ey, s1]
    · have e2 : M4 56 2 = 0 := (z2 _ _ (by omega)).trans ((hf6 _ _ (by omega)).trans x3)
      have e3 : M4 56 3 = -1 := (z2 _ _ (by omega)).trans ((hf6 _ _ (by omega)).trans u2)
      have e11 : M4 56 11 = nI an2.length := by
        rw [lA]
        exact (z2 _ _ (by omega)).trans w11
      exact ⟨fq_net x6 g1 (fun k => by omega), z3, g3.fq x6 (fun c k _ _ => by omega), (x6 1 2 (by omega)).trans g4, PX_fq g5 x6 (by omega) (fun k => by omega), by rw [x6 48 7 (by omega)]; exact g6, BX_fq g7 x6 (fun c k _ _ => by omega), ⟨e2, fun i b hi => by simp at hi, e3, e11, fun i r hi => (gA i r hi).2⟩⟩
    · exact ⟨fq_netY y6 hY.1 (fun k => by omega), BY_fq hY.2.1 y6 (fun c k _ _ => by omega), ⟨(s2 _ _ (by omega)).trans y29, fun i b hi => by simp at hi, (s2 _ _ (by omega)).trans ((hf3 _ _ (by omega)).trans v2), by rw [lA]; exact s3, fun i r hi => by rw [← same i (gA i r hi).1]; exact (gA i r hi).2⟩⟩
