/-! PURE: reading, runs of bytes -/
def rnB (f : Nat → Bool) (tx : List Nat) (p : Nat) : Nat := p + ((tx.drop p).takeWhile f).length
def blk (b : Nat) : Bool := b == 32
def ltr (b : Nat) : Bool := decide (97 ≤ b) && decide (b ≤ 122)
def fig (b : Nat) : Bool := decide (48 ≤ b) && decide (b ≤ 57)
def tOk (tx : List Nat) : Prop := tx.length ≤ 200 ∧ ∀ b ∈ tx, b < 256
def tX (M : zM) (tx : List Nat) (p : Nat) : Prop := M 56 2 = nI tx.length ∧ (∀ i b : Nat, tx[i]? = some b → M 57 i = zi2b (nI b)) ∧ M 56 5 = nI p
def tY (M : zM) (tx : List Nat) (p : Nat) : Prop := M 0 29 = nI tx.length ∧ (∀ i b : Nat, tx[i]? = some b → M 25 i = nI b) ∧ M 0 30 = nI p
section rnS
variable {f : Nat → Bool} {tx : List Nat} {p b : Nat}
theorem rnB_ge : p ≤ rnB f tx p := Nat.le_add_right _ _
theorem rnB_end (h : tx.length ≤ p) : rnB f tx p = p := by
  unfold rnB
  rw [List.drop_eq_nil_of_le h]
  rfl
theorem rnB_go (h : tx[p]? = some b) (hf : f b = true) : rnB f tx p = rnB f tx (p + 1) := by
  obtain ⟨hl, rfl⟩ := List.getElem?_eq_some_iff.mp h
  unfold rnB
  rw [List.drop_eq_getElem_cons hl, List.takeWhile_cons, if_pos hf, List.length_cons]
  omega
theorem rnB_no (h : tx[p]? = some b) (hf : f b = false) : rnB f tx p = p := by
  obtain ⟨hl, rfl⟩ := List.getElem?_eq_some_iff.mp h
  unfold rnB
  rw [List.drop_eq_getElem_cons hl, List.takeWhile_cons, if_neg (by rw [hf]; decide)]
  rfl
theorem rnB_ind (f : Nat → Bool) (tx : List Nat) : ∀ d p, tx.length ≤ p + d → p ≤ tx.length → rnB f tx p ≤ tx.length ∧ (∀ b, tx[rnB f tx p]? = some b → f b = false) ∧ ∀ i, p ≤ i → i < rnB f tx p → ∃ b, tx[i]? = some b ∧ f b = true
  | 0, p, h, hp => by
    rw [rnB_end (by omega)]
    refine ⟨hp, fun b hb => ?_, fun i h1 h2 => by omega⟩
    have := (List.getElem?_eq_some_iff.mp hb).1
    omega
  | d + 1, p, h, hp => by
    by_cases hl : tx.length ≤ p
    · rw [rnB_end hl]
      refine ⟨hp, fun b hb => ?_, fun i h1 h2 => by omega⟩
      have := (List.getElem?_eq_some_iff.mp hb).1
      omega
    · obtain ⟨b, hb⟩ : ∃ b, tx[p]? = some b := ⟨_, List.getElem?_eq_getElem (by omega)⟩
      cases hf : f b
      · rw [rnB_no hb hf]
        exact ⟨hp, fun c hc => by rw [hb] at hc; rw [← Option.some.inj hc]; exact hf, fun i h1 h2 => by omega⟩
      · rw [rnB_go hb hf]
        obtain ⟨g1, g2, g3⟩ := rnB_ind f tx d (p + 1) (by omega) (by omega)
        refine ⟨g1, g2, fun i h1 h2 => ?_⟩
        by_cases hi : i = p
        · exact ⟨b, by rw [hi]; exact hb, hf⟩
        · exact g3 i (by omega) h2
theorem rnB_le (hp : p ≤ tx.length) : rnB f tx p ≤ tx.length := (rnB_ind f tx tx.length p (by omega) hp).1
theorem rnB_stop (hp : p ≤ tx.length) (h : tx[rnB f tx p]? = some b) : f b = false := (rnB_ind f tx tx.length p (by omega) hp).2.1 b h
theorem rnB_in {i : Nat} (hp : p ≤ tx.length) (h1 : p ≤ i) (h2 : i < rnB f tx p) : ∃ b, tx[i]? = some b ∧ f b = true := (rnB_ind f tx tx.length p (by omega) hp).2.2 i h1 h2
theorem tOk_get (h : tOk tx) {i : Nat} (hi : i < tx.length) : ∃ b, tx[i]? = some b ∧ b < 256 := ⟨tx[i], List.getElem?_eq_getElem hi, h.2 _ (List.getElem_mem hi)⟩
theorem tX_to {M M2 : zM} (h : tX M tx p) (hf : fq (fun c k => c = 56 ∧ k = 5) M M2) {q : Nat} (hq : M2 56 5 = nI q) : tX M2 tx q :=
  ⟨(hf _ _ (by omega)).trans h.1, fun i b hi => (hf _ _ (by omega)).trans (h.2.1 i b hi), hq⟩
theorem tY_to {M M2 : zM} (h : tY M tx p) (hf : fq (fun c k => c = 0 ∧ k = 30) M M2) {q : Nat} (hq : M2 0 30 = nI q) : tY M2 tx q :=
  ⟨(hf _ _ (by omega)).trans h.1, fun i b hi => (hf _ _ (by omega)).trans (h.2.1 i b hi), hq⟩
theorem b_blk : ∀ b, b < 256 → decide (zi2b (nI b) = 32) = blk b := by decide +kernel
theorem b_blkY : ∀ b, b < 256 → decide ((nI b : Int32) = 32) = blk b := by decide +kernel
theorem b_ltr : ∀ b, b < 256 → (decide (zi2b (nI b) < 97) || decide ((122 : Int32) < zi2b (nI b))) = !ltr b := by decide +kernel
theorem b_fig : ∀ b, b < 256 → (decide (zi2b (nI b) < 48) || decide ((57 : Int32) < zi2b (nI b))) = !fig b := by decide +kernel
theorem b_ltrY : ∀ b, b < 256 → (decide ((97 : Int32) ≤ nI b) && decide ((nI b : Int32) ≤ 122)) = ltr b := by decide +kernel
theorem b_figY : ∀ b, b < 256 → (decide ((48 : Int32) ≤ nI b) && decide ((nI b : Int32) ≤ 57)) = fig b := by decide +kernel
theorem b_figv : ∀ b, b < 256 → fig b = true → zi2b (nI b) = nI b := by decide +kernel
theorem b_59 : ∀ b, b < 256 → decide (zi2b (nI b) = 59) = (b == 59) := by decide +kernel
theorem b_59Y : ∀ b, b < 256 → decide ((nI b : Int32) = 59) = (b == 59) := by decide +kernel
theorem skip_X0 (ht : tOk tx) : ∀ (fu p : Nat) (M : zM), tx.length < p + fu → p ≤ tx.length → tX M tx p → ∃ M2, fScript_skipBlanks_0 fu M = some ((), M2) ∧ tX M2 tx (rnB blk tx p) ∧ fq (fun c k => c = 56 ∧ k = 5) M M2
  | 0, p, M, h, hp, hM => by omega
  | fu + 1, p, M, h, hp, hM => by
    have ht1 := ht.1
    rw [fScript_skipBlanks_0, hM.1, hM.2.2]
    by_cases hl : tx.length ≤ p
    · rw [if_pos (nI_le hl (by omega)), rnB_end hl]
      exact ⟨M, rfl, hM, fq_rf⟩
    · rw [if_neg (nI_ge (by omega) (by omega)), rd_ok (show p < 200 by omega) (by decide)]
      obtain ⟨b, hb, hb2⟩ := tOk_get ht (show p < tx.length by omega)
      have e := b_blk b hb2
      rw [hM.2.1 p b hb]
      cases hf : blk b
      · rw [hf] at e
        rw [if_pos (of_decide_eq_false e), rnB_no hb hf]
        exact ⟨M, rfl, hM, fq_rf⟩
      · rw [hf] at e
        rw [if_neg (fun z => z (of_decide_eq_true e)), rnB_go hb hf]
        have hq : fq (fun c k => c = 56 ∧ k = 5) M (zs M 56 5 (nI (p + 1))) := fq_zs fq_rf ⟨rfl, rfl⟩
        obtain ⟨M2, g1, g2, g3⟩ := skip_X0 ht fu (p + 1) (zs M 56 5 (nI (p + 1))) (by omega) (by omega) (tX_to hM hq zs_eq)
        refine ⟨M2, ?_, g2, fq_tr hq g3⟩
        rw [wf_eq, nI_1]
        exact g1
theorem skip_X {M : zM} (ht : tOk tx) (hp : p ≤ tx.length) (hM : tX M tx p) : ∃ M2, fScript_skipBlanks M = some ((), M2) ∧ tX M2 tx (rnB blk tx p) ∧ fq (fun c k => c = 56 ∧ k = 5) M M2 :=
  skip_X0 ht FU p M (by have := ht.1; have : FU = 5000 := rfl; omega) hp hM
def byO (tx : List Nat) (p : Nat) : Int32 := match tx[p]? with
  | none => -1
  | some b => nI b
theorem here_end {M : zM} (ht : tOk tx) (hp : p ≤ tx.length) (hM : tY M tx p) : fMd_here_38 M = some (byO tx p, M) := by
  have ht1 := ht.1
  rw [fMd_here_38, hM.1, hM.2.2]
  unfold byO
  by_cases hl : tx.length ≤ p
  · rw [if_pos (nI_le hl (by omega)), List.getElem?_eq_none hl]
  · rw [if_neg (nI_ge (by omega) (by omega)), rd_ok (show p < 200 by omega) (by decide)]
    obtain ⟨b, hb, hb2⟩ := tOk_get ht (show p < tx.length by omega)
    rw [hM.2.1 p b hb, hb]
theorem here_0 (ht : tOk tx) : ∀ (fu p : Nat) (M : zM), tx.length < p + fu → p ≤ tx.length → tY M tx p → ∃ M2, fMd_here_0 fu M = some (byO tx (rnB blk tx p), M2) ∧ tY M2 tx (rnB blk tx p) ∧ fq (fun c k => c = 0 ∧ k = 30) M M2
  | 0, p, M, h, hp, hM => by omega
  | fu + 1, p, M, h, hp, hM => by
    have ht1 := ht.1
    rw [fMd_here_0, hM.1, hM.2.2]
    by_cases hl : tx.length ≤ p
    · rw [if_pos (nI_le hl (by omega)), rnB_end hl, here_end ht hp hM]
      exact ⟨M, rfl, hM, fq_rf⟩
    · rw [if_neg (nI_ge (by omega) (by omega)), rd_ok (show p < 200 by omega) (by decide)]
      obtain ⟨b, hb, hb2⟩ := tOk_get ht (show p < tx.length by omega)
      have e := b_blkY b hb2
      rw [hM.2.1 p b hb]
      cases hf : blk b
      · rw [hf] at e
        rw [if_pos (of_decide_eq_false e), rnB_no hb hf, here_end ht hp hM]
        exact ⟨M, rfl, hM, fq_rf⟩
      · rw [hf] at e
        rw [if_neg (fun z => z (of_decide_eq_true e)), rnB_go hb hf]
        have hq : fq (fun c k => c = 0 ∧ k = 30) M (zs M 0 30 (nI (p + 1))) := fq_zs fq_rf ⟨rfl, rfl⟩
        obtain ⟨M2, g1, g2, g3⟩ := here_0 ht fu (p + 1) (zs M 0 30 (nI (p + 1))) (by omega) (by omega) (tY_to hM hq zs_eq)
        refine ⟨M2, ?_, g2, fq_tr hq g3⟩
        rw [wf_eq, nI_1]
        exact g1
theorem here_Y {M : zM} (ht : tOk tx) (hp : p ≤ tx.length) (hM : tY M tx p) : ∃ M2, fMd_here M = some (byO tx (rnB blk tx p), M2) ∧ tY M2 tx (rnB blk tx p) ∧ fq (fun c k => c = 0 ∧ k = 30) M M2 :=
  here_0 ht FU p M (by have := ht.1; have : FU = 5000 := rfl; omega) hp hM
theorem isLetter_X {M : zM} (ht : tOk tx) (hM : tX M tx p) (hb : tx[p]? = some b) : fScript_isLetter (nI p) M = some (bI (ltr b), M) := by
  have ht1 := ht.1
  have hl := (List.getElem?_eq_some_iff.mp hb).1
  have hb2 : b < 256 := ht.2 b (List.mem_of_getElem? hb)
  have e := b_ltr b hb2
  rw [fScript_isLetter, hM.1, if_neg (nI_ge hl (by omega)), rd_ok (show p < 200 by omega) (by decide), rd_ok (show p < 200 by omega) (by decide), hM.2.1 p b hb, zbl_0, zbl_1]
  cases hf : ltr b <;> rw [hf] at e
  · by_cases h1 : zi2b (nI b) < 97
    · rw [if_pos h1]; rfl
    · have h2 : (122 : Int32) < zi2b (nI b) := by simpa [h1] using e
      rw [if_neg h1, if_pos h2]; rfl
  · have h1 : ¬ zi2b (nI b) < 97 := fun z => by simp [z] at e
    have h2 : ¬ (122 : Int32) < zi2b (nI b) := fun z => by simp [z] at e
    rw [if_neg h1, if_neg h2]; rfl
theorem isFigure_X {M : zM} (ht : tOk tx) (hM : tX M tx p) (hb : tx[p]? = some b) : fScript_isFigure (nI p) M = some (bI (fig b), M) := by
  have ht1 := ht.1
  have hl := (List.getElem?_eq_some_iff.mp hb).1
  have hb2 : b < 256 := ht.2 b (List.mem_of_getElem? hb)
  have e := b_fig b hb2
  rw [fScript_isFigure, hM.1, if_neg (nI_ge hl (by omega)), rd_ok (show p < 200 by omega) (by decide), rd_ok (show p < 200 by omega) (by decide), hM.2.1 p b hb, zbl_0, zbl_1]
  cases hf : fig b <;> rw [hf] at e
  · by_cases h1 : zi2b (nI b) < 48
    · rw [if_pos h1]; rfl
    · have h2 : (57 : Int32) < zi2b (nI b) := by simpa [h1] using e
      rw [if_neg h1, if_pos h2]; rfl
  · have h1 : ¬ zi2b (nI b) < 48 := fun z => by simp [z] at e
    have h2 : ¬ (57 : Int32) < zi2b (nI b) := fun z => by simp [z] at e
    rw [if_neg h1, if_neg h2]; rfl
theorem noFigure_X {M : zM} (ht : tOk tx) (hM : tX M tx p) (hp : p ≤ tx.length) (hl : tx.length ≤ p) : fScript_isFigure (nI p) M = some (0, M) := by
  have ht1 := ht.1
  rw [fScript_isFigure, hM.1, if_pos (nI_le hl (by omega)), zbl_0]
theorem in_ltr {M : zM} (hb : b < 256) : fMd_in (nI b : Int32).toInt64 97 122 M = some (bI (ltr b), M) := by
  rw [show (97 : Int64) = (97 : Int32).toInt64 from rfl, show (122 : Int64) = (122 : Int32).toInt64 from rfl, in_I, b_ltrY b hb]
theorem in_fig {M : zM} (hb : b < 256) : fMd_in (nI b : Int32).toInt64 48 57 M = some (bI (fig b), M) := by
  rw [show (48 : Int64) = (48 : Int32).toInt64 from rfl, show (57 : Int64) = (57 : Int32).toInt64 from rfl, in_I, b_figY b hb]
def figO (tx : List Nat) (p : Nat) : Bool := match tx[p]? with
  | none => false
  | some b => fig b
theorem in_byO {M : zM} (ht : tOk tx) : fMd_in (byO tx p).toInt64 48 57 M = some (bI (figO tx p), M) := by
  unfold byO figO
  cases h : tx[p]? with
  | none => rfl
  | some b => exact in_fig (ht.2 b (List.mem_of_getElem? h))
theorem figO_X {M : zM} (ht : tOk tx) (hM : tX M tx p) (hp : p ≤ tx.length) : fScript_isFigure (nI p) M = some (bI (figO tx p), M) := by
  unfold figO
  cases h : tx[p]? with
  | none => exact noFigure_X ht hM hp (List.getElem?_eq_none_iff.mp h)
  | some b => exact isFigure_X ht hM h
end rnS
