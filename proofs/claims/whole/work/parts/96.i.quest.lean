/-! PURE: reading, a question -/
def wmx (w : Nat) : Nat := if w = 3 then 8 else 2
noncomputable def pQ (tx : List Nat) (n m d p : Nat) : (Nat × Nat) ⊕ (Nat × List Nat × Nat) := match wno tx p (rnB ltr tx p) 5 with
  | none => .inl (1, p)
  | some w => if 12 ≤ d then .inl (4, p) else match pN tx n m (wmx w) 9 [] (rnB ltr tx p) with
    | .inl x => .inl x
    | .inr (acc, s) => .inr (w, acc, s)
section quS
variable {tx : List Nat} {p q b n d : Nat} {E : List (Nat × Nat)}
theorem wno_lt : ∀ (k w : Nat), wno tx p q k = some w → w < 5
  | 0, w, h => by cases h
  | k + 1, w, h => by
    rw [wno] at h
    by_cases c : wIs (wdL (4 - k)).length (wdC (4 - k)) tx p q
    · rw [if_pos c] at h
      have := Option.some.inj h
      omega
    · rw [if_neg c] at h
      exact wno_lt k w h
abbrev zQx (d : Nat) : Nat → Nat → Prop := fun c k => (c = 56 ∧ 3 ≤ k ∧ k ≤ 6) ∨ (58 ≤ c ∧ c ≤ 61 ∧ k = d)
def oQx (M2 : zM) (tx : List Nat) (d : Nat) : (Nat × Nat) ⊕ (Nat × List Nat × Nat) → Prop
  | .inl (k, pl) => M2 56 4 = nI k ∧ M2 56 3 = nI pl
  | .inr (w, acc, s) => tX M2 tx (s + 1) ∧ M2 56 4 = 0 ∧ M2 56 3 = -1 ∧ M2 56 6 = nI (d + 1) ∧ M2 58 d = nI w ∧ (∀ v, acc[0]? = some v → M2 59 d = nI v) ∧ (∀ v, acc[1]? = some v → M2 60 d = nI v) ∧ M2 61 d = nI (lmk (acc.drop 2))
theorem question_X (ht : tOk tx) (hW : gW n E) {M : zM} (hd : d ≤ 12) (hp : p ≤ tx.length) (hM : tX M tx p) (hN : NetX M n E) (h4 : M 56 4 = 0) (h3 : M 56 3 = -1) (h6 : M 56 6 = nI d) : ∃ M2, fScript_readQuestion M = some ((), M2) ∧ fq (zQx d) M M2 ∧ (∃ r, r ≤ tx.length ∧ M2 56 5 = nI r) ∧ oQx M2 tx d (pQ tx n E.length d p) := by
  have ht1 := ht.1
  obtain ⟨M1, a1, a2, a3⟩ := readWord_X ht hp hM
  have hq := rnB_le (f := ltr) hp
  have hf1 : fq (zQx d) M M1 := fun c k hc => a3 c k (by omega)
  have z4 : M1 56 4 = 0 := (a3 _ _ (by omega)).trans h4
  have z3 : M1 56 3 = -1 := (a3 _ _ (by omega)).trans h3
  have z6 : M1 56 6 = nI d := (a3 _ _ (by omega)).trans h6
  have n1 : NetX M1 n E := fq_net a3 hN (fun k => by omega)
  rw [fScript_readQuestion, lt_eq, hM.2.2, a1, cl_some, z6]
  unfold pQ
  have bad : ∀ k, fq (zQx d) M (zs (zs M1 56 4 (nI k)) 56 3 (nI p)) := fun k => fq_zs (fq_zs hf1 (by omega)) (by omega)
  cases hw : wno tx p (rnB ltr tx p) 5 with
  | none =>
    rw [if_neg (show ¬ ¬ oI none = -1 from fun z => z rfl), show fScript_fail 1 (nI p) M1 = _ from fail_X (k := 1), cl_some]
    exact ⟨_, rfl, bad 1, ⟨_, hq, by rw [zs_ne (by omega), zs_ne (by omega)]; exact a2.2.2⟩, (failed_X (d := d)).1, (failed_X (d := d)).2.1⟩
  | some w =>
    have hw5 := wno_lt 5 w hw
    have ew : oI (some w) = nI w := rfl
    have wne : ¬ nI w = -1 := fun z => by
      rcases (show w = 0 ∨ w = 1 ∨ w = 2 ∨ w = 3 ∨ w = 4 by omega) with rfl | rfl | rfl | rfl | rfl <;> exact absurd z (by decide)
    rw [ew, if_pos wne]
    by_cases hd2 : 12 ≤ d
    · rw [if_neg (show ¬ nI d < 12 from nI_nlt (b := 12) hd2 (by omega)), show fScript_fail 4 (nI p) M1 = _ from fail_X (k := 4), cl_some]
      refine ⟨_, rfl, bad 4, ⟨_, hq, by rw [zs_ne (by omega), zs_ne (by omega)]; exact a2.2.2⟩, ?_⟩
      simp only [if_pos hd2]
      exact ⟨(failed_X (d := d)).1, (failed_X (d := d)).2.1⟩
    · rw [if_pos (show nI d < 12 from nI_lt (b := 12) (by omega) (by omega)), wr_ok (show d < 12 by omega) (by decide), zs_ne (by omega), z6, wr_ok (show d < 12 by omega) (by decide)]
      simp only [if_neg hd2]
      have hM2 : fq (fun c k => (c = 58 ∨ c = 61) ∧ k = d) M1 (zs (zs M1 58 d (nI w)) 61 d 0) := fq_zs (fq_zs fq_rf (by omega)) (by omega)
      have w58 : (zs (zs M1 58 d (nI w)) 61 d 0) 58 d = nI w := by
        rw [zs_ne (by omega)]
        exact zs_eq
      have w61 : (zs (zs M1 58 d (nI w)) 61 d 0) 61 d = nI (lmk (([] : List Nat).drop 2)) := zs_eq
      generalize zs (zs M1 58 d (nI w)) 61 d 0 = M2 at hM2 w58 w61 ⊢
      have hm8 : wmx w ≤ 8 ∧ 2 ≤ wmx w := by
        unfold wmx
        split <;> omega
      have em : ∀ K : Int32 → Option (Unit × zM), (if ¬ nI w = 3 then K 2 else K 8) = K (nI (wmx w)) := by
        intro K
        unfold wmx
        by_cases w3 : w = 3
        · rw [if_neg (show ¬ ¬ nI w = 3 from fun z => z (by rw [w3]; rfl)), if_pos w3]
          rfl
        · rw [if_pos (show ¬ nI w = 3 from fun z => w3 ((nI_eq (b := 3) (by omega) (by omega)).mp z)), if_neg w3]
          rfl
      rw [em (fun v => fScript_readQuestion_74 v M2), fScript_readQuestion_74, fScript_readNumbers]
      obtain ⟨M3, b1, b2, ⟨r0, hr0, b0⟩, b3⟩ := numbers_X (d := d) ht hW (show d < 12 by omega) hm8.1 9 FU [] (rnB ltr tx p) M2 (by simp; omega) (by decide) hq (by simp) ⟨(hM2 _ _ (by omega)).trans a2.1, fun i b hi => (hM2 _ _ (by omega)).trans (a2.2.1 i b hi), (hM2 _ _ (by omega)).trans a2.2.2⟩ (fq_net hM2 n1 (fun k => by omega)) ((hM2 _ _ (by omega)).trans z4) ((hM2 _ _ (by omega)).trans z3) ⟨(hM2 _ _ (by omega)).trans z6, fun v hv => (by cases hv), fun v hv => (by cases hv), w61⟩
      have b1 : fScript_readNumbers_2 FU (nI (wmx w)) 0 M2 = some ((), M3) := b1
      rw [b1, cl_some, wf_eq]
      have hq6 : fq (fun c k => c = 56 ∧ k = 6) M3 (zs M3 56 6 (M3 56 6 + 1)) := fq_zs fq_rf ⟨rfl, rfl⟩
      refine ⟨_, rfl, fq_tr hf1 (fun c k hc => (hq6 c k (by omega)).trans ((b2 c k (by omega)).trans (hM2 c k (by omega)))), ⟨r0, hr0, (hq6 _ _ (by omega)).trans b0⟩, ?_⟩
      cases hN9 : pN tx n E.length (wmx w) 9 [] (rnB ltr tx p) with
      | inl x =>
        rw [hN9] at b3
        exact ⟨(hq6 _ _ (by omega)).trans b3.1, (hq6 _ _ (by omega)).trans b3.2⟩
      | inr x =>
        rw [hN9] at b3
        obtain ⟨t1, t2, t3, t4⟩ := b3
        refine ⟨⟨(hq6 _ _ (by omega)).trans t1.1, fun i b hi => (hq6 _ _ (by omega)).trans (t1.2.1 i b hi), (hq6 _ _ (by omega)).trans t1.2.2⟩, (hq6 _ _ (by omega)).trans t2, (hq6 _ _ (by omega)).trans t3, ?_, (hq6 _ _ (by omega)).trans ((b2 _ _ (by omega)).trans w58), fun v hv => (hq6 _ _ (by omega)).trans (t4.2.1 v hv), fun v hv => (hq6 _ _ (by omega)).trans (t4.2.2.1 v hv), (hq6 _ _ (by omega)).trans t4.2.2.2⟩
        rw [t4.1, nI_1]
        exact zs_eq
end quS
