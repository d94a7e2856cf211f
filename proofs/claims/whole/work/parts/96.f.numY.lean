/-! PURE: reading, a number in the reference -/
def nY (M : zM) (acc : List Nat) : Prop := ∀ i v : Nat, acc[i]? = some v → M 28 i = nI v
abbrev zNy : Nat → Nat → Prop := fun c k => (c = 0 ∧ (k = 30 ∨ k = 31 ∨ k = 32)) ∨ c = 28
section nyS
variable {tx : List Nat} {p q b n : Nat} {E : List (Nat × Nat)}
theorem want_1 {M : zM} {k v : Int32} (h : M 0 31 = 0) : fMd_want 1 k v M = some (1, M) := by
  rw [fMd_want, if_pos (by decide), fMd_want_21, h, if_neg (fun z => z rfl), zbl_1]
theorem want_0 {M : zM} {k s : Nat} (h : M 0 31 = 0) (h1 : 1 ≤ k) (h2 : k ≤ 4) : fMd_want 0 (nI k) (nI s) M = some (0, zs (zs M 0 31 (nI k)) 0 32 (nI s)) := by
  have e : (zs (zs M 0 31 (nI k)) 0 32 (nI s)) 0 31 = nI k := by
    rw [zs_ne (by omega)]
    exact zs_eq
  rw [fMd_want, if_neg (fun z => z rfl), h, if_neg (fun z => z rfl), wf_eq, wf_eq, fMd_want_21, e, if_pos (show ¬ nI k = 0 from nI_ne0 (by omega) (by omega)), zbl_0]
theorem failed_Y {M : zM} {k s : Nat} : (zs (zs M 0 31 (nI k)) 0 32 (nI s)) 0 31 = nI k ∧ (zs (zs M 0 31 (nI k)) 0 32 (nI s)) 0 32 = nI s ∧ fq zNy M (zs (zs M 0 31 (nI k)) 0 32 (nI s)) :=
  ⟨by rw [zs_ne (by omega)]; exact zs_eq, zs_eq, fq_zs (fq_zs fq_rf (by omega)) (by omega)⟩
theorem run_Y (ht : tOk tx) {i : Int32} : ∀ (fu r w : Nat) (M : zM), tx.length < r + fu → q ≤ r → r ≤ tx.length → w ≤ 9999 → (r - q ≤ 2 → w = vd tx q (r - q)) → tY M tx r → ∃ (w2 : Nat) (M2 : zM), fMd_takeNumber_37 fu i (nI q) (nI w) M = fMd_takeNumber_116 i (nI q) (nI w2) M2 ∧ (rnB fig tx r - q ≤ 2 → w2 = vd tx q (rnB fig tx r - q)) ∧ tY M2 tx (rnB fig tx r) ∧ fq (fun c k => c = 0 ∧ k = 30) M M2 := by
  have ht1 := ht.1
  intro fu
  induction fu with
  | zero => intro r w M h1 h2 h3; omega
  | succ fu ih =>
    intro r w M h1 h2 h3 hw hv h4
    rw [fMd_takeNumber_37, h4.1, h4.2.2]
    by_cases hl : tx.length ≤ r
    · rw [if_pos (nI_le hl (by omega)), rnB_end hl]
      exact ⟨w, M, rfl, hv, h4, fq_rf⟩
    · obtain ⟨b, hb, hb2⟩ := tOk_get ht (show r < tx.length by omega)
      rw [if_neg (nI_ge (by omega) (by omega)), rd_ok (show r < 200 by omega) (by decide), h4.2.1 r b hb, in_fig hb2, cl_some]
      cases hf : fig b
      · rw [bI_f, if_pos rfl, rnB_no hb hf]
        exact ⟨w, M, rfl, hv, h4, fq_rf⟩
      · have hq : fq (fun c k => c = 0 ∧ k = 30) M (zs M 0 30 (nI (r + 1))) := fq_zs fq_rf ⟨rfl, rfl⟩
        obtain ⟨d1, d2, d3⟩ := dg_fig hb hf
        rw [bI_t, if_neg (by decide), h4.2.2, rnB_go hb hf]
        by_cases h5 : w ≤ 999
        · obtain ⟨w2, M2, g1, g2, g3, g4⟩ := ih (r + 1) (10 * w + (b - 48)) (zs M 0 30 (nI (r + 1))) (by omega) (by omega) (by omega) (by omega) (fun hr => by
            rw [show r + 1 - q = (r - q) + 1 by omega, vd, show q + (r - q) = r by omega, d1, ← hv (by omega)]) (tY_to h4 hq zs_eq)
          refine ⟨w2, M2, ?_, g2, g3, fq_tr hq g4⟩
          rw [if_pos (show nI w ≤ 999 from nI_le (b := 999) h5 (by omega)), rd_ok (show r < 200 by omega) (by decide), h4.2.1 r b hb, lt_eq, wf_eq, nI_1, ← g1, show (10 : Int32) = nI 10 from rfl, show (48 : Int32) = nI 48 from rfl, nI_times, nI_add, pk_sub (by omega)]
          congr 2
          omega
        · obtain ⟨w2, M2, g1, g2, g3, g4⟩ := ih (r + 1) w (zs M 0 30 (nI (r + 1))) (by omega) (by omega) (by omega) hw (fun hr => by
            have := vd_99 (tx := tx) (q := q) (show r - q ≤ 2 by omega)
            have := hv (by omega)
            omega) (tY_to h4 hq zs_eq)
          refine ⟨w2, M2, ?_, g2, g3, fq_tr hq g4⟩
          rw [if_neg (show ¬ nI w ≤ 999 from nI_ge (a := 999) (by omega) (by omega)), wf_eq, nI_1, ← g1]
def oN (M2 : zM) (tx : List Nat) (n m : Nat) (acc : List Nat) (s : Nat) : Prop :=
  if figO tx s = false then M2 0 31 = nI 1 ∧ M2 0 32 = nI s
  else if 2 < rnB fig tx s - s then M2 0 31 = nI 2 ∧ M2 0 32 = nI s
  else if vd tx s (rnB fig tx s - s) < (if 2 ≤ acc.length then m else n) then tY M2 tx (rnB fig tx s) ∧ M2 0 31 = 0 ∧ M2 0 32 = -1 ∧ nY M2 (acc ++ [vd tx s (rnB fig tx s - s)])
  else M2 0 31 = nI 3 ∧ M2 0 32 = nI s
theorem number_Y (ht : tOk tx) (hW : gW n E) {M : zM} {acc : List Nat} (hl : acc.length < 8) (hp : p ≤ tx.length) (hM : tY M tx p) (hN : NetY M n E) (h31 : M 0 31 = 0) (h32 : M 0 32 = -1) (hA : nY M acc) : ∃ M2, fMd_takeNumber (nI acc.length) M = some ((), M2) ∧ fq zNy M M2 ∧ (∃ r, r ≤ tx.length ∧ M2 0 30 = nI r) ∧ oN M2 tx n E.length acc (rnB blk tx p) := by
  have ht1 := ht.1
  have hE := hW.2.1
  have hn := hW.1.2
  obtain ⟨M1, a1, a2, a3⟩ := here_Y ht hp hM
  have hs := rnB_le (f := blk) hp
  have hf1 : fq zNy M M1 := fun c k hc => a3 c k (by omega)
  have z31 : M1 0 31 = 0 := (a3 _ _ (by omega)).trans h31
  have z32 : M1 0 32 = -1 := (a3 _ _ (by omega)).trans h32
  have n1 : NetY M1 n E := fq_netY a3 hN (fun k => by omega)
  have A1 : nY M1 acc := fun i v hi => (a3 _ _ (by omega)).trans (hA i v hi)
  rw [fMd_takeNumber, a1, cl_some, in_byO ht, cl_some, a2.2.2]
  generalize rnB blk tx p = s at a1 a2 hs ⊢
  unfold oN
  cases h4 : figO tx s
  · rw [bI_f, show fMd_want 0 1 (nI s) M1 = _ from want_0 (k := 1) z31 (by omega) (by omega), cl_some, if_neg (fun z => z rfl)]
    refine ⟨_, rfl, fq_tr hf1 failed_Y.2.2, ⟨s, hs, by rw [zs_ne (by omega), zs_ne (by omega)]; exact a2.2.2⟩, ?_⟩
    rw [if_pos rfl]
    exact ⟨failed_Y.1, failed_Y.2.1⟩
  · rw [bI_t, want_1 z31, cl_some, if_pos (by decide), lt_eq, a2.2.2]
    obtain ⟨w2, M2, b1, b2, b3, b4⟩ := run_Y (i := nI acc.length) (q := s) ht FU s 0 M1 (by have : FU = 5000 := rfl; omega) (Nat.le_refl _) hs (by omega) (fun _ => by rw [Nat.sub_self]; rfl) a2
    have b1 : fMd_takeNumber_37 FU (nI acc.length) (nI s) 0 M1 = fMd_takeNumber_116 (nI acc.length) (nI s) (nI w2) M2 := b1
    have hse := rnB_ge (f := fig) (tx := tx) (p := s)
    have he := rnB_le (f := fig) hs
    have hf2 : fq zNy M M2 := fq_tr hf1 (fun c k hc => b4 c k (by omega))
    have y31 : M2 0 31 = 0 := (b4 _ _ (by omega)).trans z31
    have y32 : M2 0 32 = -1 := (b4 _ _ (by omega)).trans z32
    have n2 : NetY M2 n E := fq_netY b4 n1 (fun k => by omega)
    have A2 : nY M2 acc := fun i v hi => (b4 _ _ (by omega)).trans (A1 i v hi)
    rw [b1, fMd_takeNumber_116, b3.2.2, pk_sub hse]
    generalize rnB fig tx s = e at b1 b2 b3 he hse ⊢
    by_cases c3 : 2 < e - s
    · rw [if_pos (show (3 : Int32) ≤ nI (e - s) from nI_le (a := 3) c3 (by omega)), fMd_takeNumber_132, show fMd_want 0 2 (nI s) M2 = _ from want_0 (k := 2) y31 (by omega) (by omega), cl_some, if_pos rfl, wr_ok hl (by decide)]
      refine ⟨_, rfl, fq_zs (fq_tr hf2 failed_Y.2.2) (by omega), ⟨e, he, by rw [zs_ne (by omega), zs_ne (by omega), zs_ne (by omega)]; exact b3.2.2⟩, ?_⟩
      rw [if_neg (by decide), if_pos c3]
      exact ⟨by rw [zs_ne (by omega)]; exact failed_Y.1, by rw [zs_ne (by omega)]; exact failed_Y.2.1⟩
    · rw [if_neg (show ¬ (3 : Int32) ≤ nI (e - s) from nI_ge (b := 3) (by omega) (by omega)), fMd_takeNumber_132, want_1 y31, cl_some, if_neg (by decide)]
      have hv := vd_99 (tx := tx) (q := s) (show e - s ≤ 2 by omega)
      rw [← b2 (by omega)] at hv
      have hX : (if (2 : Int32) ≤ nI acc.length then cl (fMd_noLine (nI w2) M2) fun r5 M4 => if ¬ r5 = 0 then fMd_takeNumber_177 (nI acc.length) (nI s) (nI w2) 0 M4 else fMd_takeNumber_177 (nI acc.length) (nI s) (nI w2) 1 M4 else cl (fMd_noPost (nI w2) M2) fun r7 M6 => if ¬ r7 = 0 then fMd_takeNumber_177 (nI acc.length) (nI s) (nI w2) 0 M6 else fMd_takeNumber_177 (nI acc.length) (nI s) (nI w2) 1 M6) = if w2 < (if 2 ≤ acc.length then E.length else n) then fMd_takeNumber_177 (nI acc.length) (nI s) (nI w2) 1 M2 else fMd_takeNumber_177 (nI acc.length) (nI s) (nI w2) 0 M2 := by
        by_cases l2 : 2 ≤ acc.length
        · rw [if_pos (show (2 : Int32) ≤ nI acc.length from nI_le (a := 2) l2 (by omega)), noLine_ok n2 hW, cl_some, zin_nI_iff (by omega), if_pos l2]
          by_cases l5 : w2 < E.length
          · rw [decide_eq_true l5, if_pos l5, if_neg (by decide)]
          · rw [decide_eq_false l5, if_neg l5, if_pos (by decide)]
        · rw [if_neg (show ¬ (2 : Int32) ≤ nI acc.length from nI_ge (b := 2) (by omega) (by omega)), noPost_ok n2 hW, cl_some, zin_nI_iff (by omega), if_neg l2]
          by_cases l5 : w2 < n
          · rw [decide_eq_true l5, if_pos l5, if_neg (by decide)]
          · rw [decide_eq_false l5, if_neg l5, if_pos (by decide)]
      rw [hX]
      by_cases c4 : w2 < if 2 ≤ acc.length then E.length else n
      · rw [if_pos c4, fMd_takeNumber_177, want_1 y31, cl_some, if_neg (by decide), wr_ok hl (by decide)]
        have hq : fq (fun c k => c = 28 ∧ k = acc.length) M2 (zs M2 28 acc.length (nI w2)) := fq_zs fq_rf ⟨rfl, rfl⟩
        refine ⟨_, rfl, fq_zs hf2 (by omega), ⟨e, he, by rw [zs_ne (by omega)]; exact b3.2.2⟩, ?_⟩
        rw [if_neg (by decide), if_neg c3, ← b2 (by omega), if_pos c4]
        refine ⟨⟨(hq _ _ (by omega)).trans b3.1, fun i b hi => (hq _ _ (by omega)).trans (b3.2.1 i b hi), (hq _ _ (by omega)).trans b3.2.2⟩, (hq _ _ (by omega)).trans y31, (hq _ _ (by omega)).trans y32, fun i v hi => ?_⟩
        rcases push_get hi with ⟨z1, z2⟩ | ⟨z1, z2⟩
        · rw [zs_ne (by omega)]
          exact A2 i v z2
        · rw [z1, ← z2]
          exact zs_eq
      · rw [if_neg c4, fMd_takeNumber_177, show fMd_want 0 3 (nI s) M2 = _ from want_0 (k := 3) y31 (by omega) (by omega), cl_some, if_pos rfl, wr_ok hl (by decide)]
        refine ⟨_, rfl, fq_zs (fq_tr hf2 failed_Y.2.2) (by omega), ⟨e, he, by rw [zs_ne (by omega), zs_ne (by omega), zs_ne (by omega)]; exact b3.2.2⟩, ?_⟩
        rw [if_neg (by decide), if_neg c3, ← b2 (by omega), if_neg c4]
        exact ⟨by rw [zs_ne (by omega)]; exact failed_Y.1, by rw [zs_ne (by omega)]; exact failed_Y.2.1⟩
end nyS
