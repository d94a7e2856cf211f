/-! PURE: reading, words in the reference -/
section wyS
variable {tx : List Nat} {p q b : Nat}
theorem isWord_st {M : zM} {x : Int32} {fu j L : Nat} {c : Nat → Nat} (hj : j < 6) (hL : L ≤ 6) (hjL : j < L) (hpj : p + j < 200) (h33 : M 0 33 = nI p) (hx : M 25 (p + j) = x) :
    fMd_isWord_18 (fu + 1) (nI L) (nI (c 0)) (nI (c 1)) (nI (c 2)) (nI (c 3)) (nI (c 4)) (nI (c 5)) 1 (nI j) M = fMd_isWord_18 fu (nI L) (nI (c 0)) (nI (c 1)) (nI (c 2)) (nI (c 3)) (nI (c 4)) (nI (c 5)) (bI (decide (x = nI (c j)))) (nI (j + 1)) M := by
  have n1 : ¬ (1 : Int32) = 0 := by decide
  have key : ∀ v : Int32, fMd_isWord_95 (fMd_isWord_18 fu) (nI L) (nI (c 0)) (nI (c 1)) (nI (c 2)) (nI (c 3)) (nI (c 4)) (nI (c 5)) (nI j) v x M = fMd_isWord_18 fu (nI L) (nI (c 0)) (nI (c 1)) (nI (c 2)) (nI (c 3)) (nI (c 4)) (nI (c 5)) (bI (decide (x = v))) (nI (j + 1)) M := by
    intro v
    rw [fMd_isWord_95, nI_1]
    by_cases h : x = v
    · rw [if_neg (fun z => z h), decide_eq_true h, bI_t]
    · rw [if_pos h, decide_eq_false h, bI_f]
  rw [fMd_isWord_18, if_neg (nI_ge hjL (by omega)), if_neg n1, h33, nI_add, rd_ok hpj (by decide), hx]
  rcases (show j = 0 ∨ j = 1 ∨ j = 2 ∨ j = 3 ∨ j = 4 ∨ j = 5 by omega) with rfl | rfl | rfl | rfl | rfl | rfl
  · rw [if_neg (by decide)]
    exact key _
  · rw [if_pos (by decide), if_neg (by decide)]
    exact key _
  · rw [if_pos (by decide), if_pos (by decide), if_neg (by decide)]
    exact key _
  · rw [if_pos (by decide), if_pos (by decide), if_pos (by decide), if_neg (by decide)]
    exact key _
  · rw [if_pos (by decide), if_pos (by decide), if_pos (by decide), if_pos (by decide), if_neg (by decide)]
    exact key _
  · rw [if_pos (by decide), if_pos (by decide), if_pos (by decide), if_pos (by decide), if_pos (by decide)]
    exact key _
theorem isWord_Y {M : zM} (ht : tOk tx) (hM : tY M tx q) (h33 : M 0 33 = nI p) (h34 : M 0 34 = nI (q - p)) (hp : p ≤ q) (hq : q ≤ tx.length) {L : Nat} {c : Nat → Nat} (hL : L ≤ 6) (hc : ∀ i, i < L → c i < 256) :
    ∃ r : Bool, fMd_isWord (nI L) (nI (c 0)) (nI (c 1)) (nI (c 2)) (nI (c 3)) (nI (c 4)) (nI (c 5)) M = some (bI r, M) ∧ (r = true ↔ wIs L c tx p q) := by
  have ht1 := ht.1
  have stop : ∀ (fu : Nat) (v : Int32), fMd_isWord_18 (fu + 1) (nI L) (nI (c 0)) (nI (c 1)) (nI (c 2)) (nI (c 3)) (nI (c 4)) (nI (c 5)) 0 v M = some (0, M) := by
    intro fu v
    rw [fMd_isWord_18, if_pos rfl, zbl_0]
    split <;> rfl
  rw [fMd_isWord, h34]
  by_cases h : q - p = L
  · rw [if_neg (fun z => z (by rw [h]))]
    refine lpE (f := fun fu k (s : Bool) M => fMd_isWord_18 fu (nI L) (nI (c 0)) (nI (c 1)) (nI (c 2)) (nI (c 3)) (nI (c 4)) (nI (c 5)) (bI s) (nI k) M) (n := L)
      (I := fun k s M' => M' = M ∧ (s = true ↔ ∀ j, j < k → tx[p + j]? = some (c j)))
      (R := fun o => ∃ r : Bool, o = some (bI r, M) ∧ (r = true ↔ wIs L c tx p q)) ?_ ?_ 0 FU true M (by omega) (fu_ok (by omega)) ⟨rfl, fun _ j hj => by omega, fun _ => rfl⟩
    · rintro fu s M' ⟨rfl, h1⟩
      refine ⟨s, ?_, h1.trans ⟨fun z => ⟨h, z⟩, fun z => z.2⟩⟩
      rw [fMd_isWord_18, if_pos (nI_le (Nat.le_refl _) (by omega))]
      cases s
      · exact zbl_0
      · exact zbl_1
    · rintro fu k s M' hk ⟨rfl, h1⟩
      cases hs : s
      · left
        refine ⟨false, stop fu _, fun z => (by cases z), fun z => ?_⟩
        have := h1.mpr (fun j hj => z.2 j (by omega))
        rw [hs] at this
        cases this
      · right
        obtain ⟨b, hb, hb2⟩ := tOk_get ht (show p + k < tx.length by omega)
        refine ⟨decide ((nI b : Int32) = nI (c k)), M', isWord_st (by omega) hL hk (by omega) h33 (hM.2.1 _ b hb), rfl, ?_⟩
        rw [decide_eq_true_eq, nI_eq (by omega) (by have := hc k hk; omega)]
        constructor
        · intro z j hj
          by_cases hjk : j = k
          · rw [hjk, hb, z]
          · exact h1.mp hs j (by omega)
        · intro z
          have := z k (by omega)
          rw [hb] at this
          exact Option.some.inj this
  · rw [if_pos (fun z => h ((nI_eq (by omega) (by omega)).mp z))]
    exact ⟨false, stop 4999 0, fun z => (by cases z), fun z => absurd z.1 h⟩
theorem wno_at {k : Nat} (hk : k < 5) : wno tx p q (5 - k) = @ite _ (wIs (wdL k).length (wdC k) tx p q) (Classical.propDecidable _) (some k) (wno tx p q (4 - k)) := by
  rcases (show k = 0 ∨ k = 1 ∨ k = 2 ∨ k = 3 ∨ k = 4 by omega) with rfl | rfl | rfl | rfl | rfl <;> rfl
theorem words_Y {M : zM} (ht : tOk tx) (hM : tY M tx q) (h33 : M 0 33 = nI p) (hp : p ≤ q) (hq : q ≤ tx.length) : ∃ M2, fMd_takeQuestion_59 M = some (oI (wno tx p q 5), M2) ∧ fq (fun c k => c = 0 ∧ k = 34) M M2 := by
  have hf : fq (fun c k => c = 0 ∧ k = 34) M (zs M 0 34 (nI (q - p))) := fq_zs fq_rf ⟨rfl, rfl⟩
  have hM2 : tY (zs M 0 34 (nI (q - p))) tx q := ⟨(hf _ _ (by omega)).trans hM.1, fun i b hi => (hf _ _ (by omega)).trans (hM.2.1 i b hi), (hf _ _ (by omega)).trans hM.2.2⟩
  have h2 : (zs M 0 34 (nI (q - p))) 0 33 = nI p := (hf _ _ (by omega)).trans h33
  have W : ∀ i, i < 5 → ∃ r : Bool, fMd_isWord (nI (wdL i).length) (nI (wdC i 0)) (nI (wdC i 1)) (nI (wdC i 2)) (nI (wdC i 3)) (nI (wdC i 4)) (nI (wdC i 5)) (zs M 0 34 (nI (q - p))) = some (bI r, zs M 0 34 (nI (q - p))) ∧ (r = true ↔ wIs (wdL i).length (wdC i) tx p q) := fun i hi =>
    isWord_Y ht hM2 h2 zs_eq hp hq (wdL_le hi).2 (fun j hj => by
      have := wdC_lt i hi j (by have := wdL_le hi; omega)
      omega)
  refine ⟨zs M 0 34 (nI (q - p)), ?_, hf⟩
  rw [fMd_takeQuestion_59, hM.2.2, h33, pk_sub hp, wf_eq]
  obtain ⟨r0, a0, b0⟩ := W 0 (by omega)
  obtain ⟨r1, a1, b1⟩ := W 1 (by omega)
  obtain ⟨r2, a2, b2⟩ := W 2 (by omega)
  obtain ⟨r3, a3, b3⟩ := W 3 (by omega)
  obtain ⟨r4, a4, b4⟩ := W 4 (by omega)
  have a0 : fMd_isWord 5 97 98 111 118 101 0 (zs M 0 34 (nI (q - p))) = some (bI r0, zs M 0 34 (nI (q - p))) := a0
  have a1 : fMd_isWord 6 106 111 105 110 101 100 (zs M 0 34 (nI (q - p))) = some (bI r1, zs M 0 34 (nI (q - p))) := a1
  have a2 : fMd_isWord 3 102 97 114 0 0 0 (zs M 0 34 (nI (q - p))) = some (bI r2, zs M 0 34 (nI (q - p))) := a2
  have a3 : fMd_isWord 6 112 97 114 116 101 100 (zs M 0 34 (nI (q - p))) = some (bI r3, zs M 0 34 (nI (q - p))) := a3
  have a4 : fMd_isWord 4 110 101 120 116 0 0 (zs M 0 34 (nI (q - p))) = some (bI r4, zs M 0 34 (nI (q - p))) := a4
  have no : ∀ {r : Bool} {i : Nat}, (r = true ↔ wIs (wdL i).length (wdC i) tx p q) → r = false → ¬ wIs (wdL i).length (wdC i) tx p q := fun h1 h2 h3 => by
    rw [h1.mpr h3] at h2
    cases h2
  rw [show wno tx p q 5 = _ from wno_at (k := 0) (by omega)]
  rw [a0, cl_some]
  cases e0 : r0
  · rw [bI_f, if_pos rfl, a1, cl_some, if_neg (no b0 e0), show wno tx p q (4 - 0) = _ from wno_at (k := 1) (by omega)]
    cases e1 : r1
    · rw [bI_f, if_pos rfl, a2, cl_some, if_neg (no b1 e1), show wno tx p q (4 - 1) = _ from wno_at (k := 2) (by omega)]
      cases e2 : r2
      · rw [bI_f, if_pos rfl, a3, cl_some, if_neg (no b2 e2), show wno tx p q (4 - 2) = _ from wno_at (k := 3) (by omega)]
        cases e3 : r3
        · rw [bI_f, if_pos rfl, a4, cl_some, if_neg (no b3 e3), show wno tx p q (4 - 3) = _ from wno_at (k := 4) (by omega)]
          cases e4 : r4
          · rw [bI_f, if_pos rfl, if_neg (no b4 e4)]
            rfl
          · rw [bI_t, if_neg (by decide), if_pos (b4.mp e4)]
            rfl
        · rw [bI_t, if_neg (by decide), if_pos (b3.mp e3)]
          rfl
      · rw [bI_t, if_neg (by decide), if_pos (b2.mp e2)]
        rfl
    · rw [bI_t, if_neg (by decide), if_pos (b1.mp e1)]
      rfl
  · rw [bI_t, if_neg (by decide), if_pos (b0.mp e0)]
    rfl
theorem takeQ_Y {M : zM} (ht : tOk tx) (hp : p ≤ tx.length) (hM : tY M tx p) : ∃ M2, fMd_takeQuestion M = some (oI (wno tx (rnB blk tx p) (rnB ltr tx (rnB blk tx p)) 5), M2) ∧ tY M2 tx (rnB ltr tx (rnB blk tx p)) ∧ M2 0 33 = nI (rnB blk tx p) ∧ fq (fun c k => c = 0 ∧ (k = 30 ∨ k = 33 ∨ k = 34)) M M2 := by
  have ht1 := ht.1
  obtain ⟨M1, a1, a2, a3⟩ := here_Y ht hp hM
  have hs := rnB_le (f := blk) hp
  generalize rnB blk tx p = s at a1 a2 hs ⊢
  have aux : ∀ (fu r : Nat) (M : zM), tx.length < r + fu → s ≤ r → r ≤ tx.length → tY M tx r → M 0 33 = nI s → ∃ M2, fMd_takeQuestion_13 fu M = some (oI (wno tx s (rnB ltr tx r) 5), M2) ∧ tY M2 tx (rnB ltr tx r) ∧ M2 0 33 = nI s ∧ fq (fun c k => c = 0 ∧ (k = 30 ∨ k = 33 ∨ k = 34)) M M2 := by
    intro fu
    induction fu with
    | zero => intro r M h1 h2 h3; omega
    | succ fu ih =>
      intro r M h1 h2 h3 h4 h5
      have fin : rnB ltr tx r = r → ∃ M2, fMd_takeQuestion_59 M = some (oI (wno tx s (rnB ltr tx r) 5), M2) ∧ tY M2 tx (rnB ltr tx r) ∧ M2 0 33 = nI s ∧ fq (fun c k => c = 0 ∧ (k = 30 ∨ k = 33 ∨ k = 34)) M M2 := fun e => by
        rw [e]
        obtain ⟨M2, g1, g2⟩ := words_Y ht h4 h5 h2 h3
        exact ⟨M2, g1, ⟨(g2 _ _ (by omega)).trans h4.1, fun i b hi => (g2 _ _ (by omega)).trans (h4.2.1 i b hi), (g2 _ _ (by omega)).trans h4.2.2⟩, (g2 _ _ (by omega)).trans h5, fun c k hc => g2 c k (by omega)⟩
      rw [fMd_takeQuestion_13, h4.1, h4.2.2]
      by_cases hl : tx.length ≤ r
      · rw [if_pos (nI_le hl (by omega))]
        exact fin (rnB_end hl)
      · obtain ⟨b, hb, hb2⟩ := tOk_get ht (show r < tx.length by omega)
        rw [if_neg (nI_ge (by omega) (by omega)), rd_ok (show r < 200 by omega) (by decide), h4.2.1 r b hb, in_ltr hb2, cl_some]
        cases hf : ltr b
        · rw [bI_f, if_pos rfl]
          exact fin (rnB_no hb hf)
        · have hq : fq (fun c k => c = 0 ∧ k = 30) M (zs M 0 30 (nI (r + 1))) := fq_zs fq_rf ⟨rfl, rfl⟩
          obtain ⟨M2, g1, g2, g3, g4⟩ := ih (r + 1) (zs M 0 30 (nI (r + 1))) (by omega) (by omega) (by omega) (tY_to h4 hq zs_eq) ((hq _ _ (by omega)).trans h5)
          rw [bI_t, if_neg (by decide), wf_eq, h4.2.2, nI_1, rnB_go hb hf]
          exact ⟨M2, g1, g2, g3, fq_tr (fun c k hc => hq c k (by omega)) g4⟩
  have hq : fq (fun c k => c = 0 ∧ k = 33) M1 (zs M1 0 33 (nI s)) := fq_zs fq_rf ⟨rfl, rfl⟩
  obtain ⟨M2, g1, g2, g3, g4⟩ := aux FU s (zs M1 0 33 (nI s)) (by have : FU = 5000 := rfl; omega) (Nat.le_refl _) hs ⟨(hq _ _ (by omega)).trans a2.1, fun i b hi => (hq _ _ (by omega)).trans (a2.2.1 i b hi), (hq _ _ (by omega)).trans a2.2.2⟩ zs_eq
  refine ⟨M2, ?_, g2, g3, fun c k hc => (g4 c k hc).trans ((hq c k (by omega)).trans (a3 c k (by omega)))⟩
  rw [fMd_takeQuestion, a1, cl_some, wf_eq, a2.2.2]
  exact g1
end wyS
