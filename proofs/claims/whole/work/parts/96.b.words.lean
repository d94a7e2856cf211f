/-! PURE: reading, words -/
def wdL (i : Nat) : List Nat := [[97, 98, 111, 118, 101], [106, 111, 105, 110, 101, 100], [102, 97, 114], [112, 97, 114, 116, 101, 100], [110, 101, 120, 116]].getD i []
def wdC (i j : Nat) : Nat := (wdL i).getD j 0
def wIs (L : Nat) (c : Nat → Nat) (tx : List Nat) (p q : Nat) : Prop := q - p = L ∧ ∀ i, i < L → tx[p + i]? = some (c i)
theorem len_S {i : Nat} (hi : i < 5) (M : zM) : fJ0_length (1000 + i) M = some (nI (wdL i).length, M) := by
  have hc : fJ0_coder (1000 + i) M = some (0, M) := by
    rw [fJ0_coder, if_neg (by decide)]
    unfold znr
    rw [if_pos (by rfl)]
  have h : zshr (zSl (1000 + i + 1000)) 0 = nI (wdL i).length := by
    rcases (show i = 0 ∨ i = 1 ∨ i = 2 ∨ i = 3 ∨ i = 4 by omega) with rfl | rfl | rfl | rfl | rfl <;> decide
  rw [fJ0_length, hc, cl_some, h]
theorem wdL_le {i : Nat} (hi : i < 5) : 1 ≤ (wdL i).length ∧ (wdL i).length ≤ 6 := by
  rcases (show i = 0 ∨ i = 1 ∨ i = 2 ∨ i = 3 ∨ i = 4 by omega) with rfl | rfl | rfl | rfl | rfl <;> decide
theorem char_S {i j : Nat} (hi : i < 5) (hj : j < (wdL i).length) (M : zM) : fJ0_charAt (1000 + i) (nI j) M = some (nI (wdC i j), M) := by
  have hl := (wdL_le hi).2
  rcases (show i = 0 ∨ i = 1 ∨ i = 2 ∨ i = 3 ∨ i = 4 by omega) with rfl | rfl | rfl | rfl | rfl <;>
  rcases (show j = 0 ∨ j = 1 ∨ j = 2 ∨ j = 3 ∨ j = 4 ∨ j = 5 by omega) with rfl | rfl | rfl | rfl | rfl | rfl <;>
  first
  | rfl
  | exact absurd hj (by decide)
theorem b_lo : ∀ b, b < 128 → zi2b (nI b) = nI b := by decide +kernel
theorem b_hi : ∀ b, b < 256 → 128 ≤ b → zi2b (nI b) < 0 := by decide +kernel
theorem wdC_lt : ∀ i, i < 5 → ∀ j, j < 6 → wdC i j < 128 := by decide
section wdS
variable {tx : List Nat} {p q b : Nat}
theorem b_eqX {c : Nat} (hb : b < 256) (hc : c < 128) : zi2b (nI b) = nI c ↔ b = c := by
  by_cases h : b < 128
  · rw [b_lo b h]
    constructor
    · intro z
      exact (nI_eq (by omega) (by omega)).mp z
    · rintro rfl
      rfl
  · constructor
    · intro z
      have := b_hi b hb (by omega)
      rw [z] at this
      exact absurd this (nI_nlt0 (by omega))
    · intro z
      omega
theorem isWord_X {M : zM} (ht : tOk tx) (hM : tX M tx q) (hp : p ≤ q) (hq : q ≤ tx.length) {i : Nat} (hi : i < 5) : ∃ r : Bool, fScript_isWord (1000 + i) (nI p) M = some (bI r, M) ∧ (r = true ↔ wIs (wdL i).length (wdC i) tx p q) := by
  have ht1 := ht.1
  have hl := wdL_le hi
  rw [fScript_isWord, len_S hi, cl_some, hM.2.2, pk_sub hp, zbl_0]
  by_cases h : q - p = (wdL i).length
  · rw [if_pos (by rw [h])]
    refine lpE (f := fun fu k (_ : Unit) M => fScript_isWord_17 fu (1000 + i) (nI p) (nI k) M) (n := (wdL i).length)
      (I := fun k _ M' => M' = M ∧ ∀ j, j < k → tx[p + j]? = some (wdC i j))
      (R := fun o => ∃ r : Bool, o = some (bI r, M) ∧ (r = true ↔ wIs (wdL i).length (wdC i) tx p q)) ?_ ?_ 0 FU () M (by omega) (fu_ok (by omega)) ⟨rfl, fun j hj => by omega⟩
    · rintro fu - M' ⟨rfl, h1⟩
      rw [fScript_isWord_17, len_S hi, cl_some, if_pos (nI_le (by omega) (by omega)), zbl_1]
      exact ⟨true, rfl, fun _ => ⟨h, h1⟩, fun _ => rfl⟩
    · rintro fu k - M' hk ⟨rfl, h1⟩
      obtain ⟨b, hb, hb2⟩ := tOk_get ht (show p + k < tx.length by omega)
      rw [fScript_isWord_17, len_S hi, cl_some, if_neg (nI_ge hk (by omega)), nI_add, rd_ok (show p + k < 200 by omega) (by decide), hM.2.1 _ b hb, char_S hi hk, cl_some, zbl_0]
      have e := b_eqX hb2 (wdC_lt i hi k (by omega))
      by_cases hbc : b = wdC i k
      · right
        refine ⟨(), M', ?_, rfl, fun j hj => ?_⟩
        · rw [if_pos (e.mpr hbc), nI_1]
        · by_cases hjk : j = k
          · rw [hjk, hb, hbc]
          · exact h1 j (by omega)
      · left
        rw [if_neg (fun z => hbc (e.mp z))]
        refine ⟨false, rfl, fun z => (by cases z), fun z => ?_⟩
        have := z.2 k hk
        rw [hb] at this
        exact absurd (Option.some.inj this) hbc
  · rw [if_neg (fun z => h ((nI_eq (by omega) (by omega)).mp z))]
    exact ⟨false, rfl, fun z => (by cases z), fun z => absurd z.1 h⟩
noncomputable def wno (tx : List Nat) (p q : Nat) : Nat → Option Nat
  | 0 => none
  | k + 1 => @ite _ (wIs (wdL (4 - k)).length (wdC (4 - k)) tx p q) (Classical.propDecidable _) (some (4 - k)) (wno tx p q k)
theorem words_X {M : zM} (ht : tOk tx) (hM : tX M tx q) (hp : p ≤ q) (hq : q ≤ tx.length) : fScript_readWord_42 FU (nI p) 0 M = some (oI (wno tx p q 5), M) := by
  refine lpE (f := fun fu k (_ : Unit) M => fScript_readWord_42 fu (nI p) (nI k) M) (n := 5)
    (I := fun k _ M' => M' = M ∧ wno tx p q 5 = wno tx p q (5 - k))
    (R := fun o => o = some (oI (wno tx p q 5), M)) ?_ ?_ 0 FU () M (by omega) (fu_ok (by omega)) ⟨rfl, rfl⟩
  · rintro fu - M' ⟨rfl, h1⟩
    rw [fScript_readWord_42, if_pos (by decide), h1]
    rfl
  · rintro fu k - M' hk ⟨rfl, h1⟩
    have hw : fScript_wordFor (nI k) M' = some (1000 + k, M') := by
      rcases (show k = 0 ∨ k = 1 ∨ k = 2 ∨ k = 3 ∨ k = 4 by omega) with rfl | rfl | rfl | rfl | rfl <;> rfl
    have hb : zSb (1000 + k) = true := by
      unfold zSb
      simp
      omega
    have hk4 : ¬ (4 : Int32) < nI k := nI_nlt (a := 4) (by omega) (by omega)
    obtain ⟨r, g1, g2⟩ := isWord_X ht hM hp hq hk
    rw [fScript_readWord_42, if_neg hk4, hw, cl_some, if_pos hb, g1, cl_some]
    have e : 5 - k = (4 - k) + 1 := by omega
    have e4 : 4 - (4 - k) = k := by omega
    have h2 : wno tx p q (5 - k) = @ite _ (wIs (wdL k).length (wdC k) tx p q) (Classical.propDecidable _) (some k) (wno tx p q (4 - k)) := by
      rw [e]
      show @ite _ (wIs (wdL (4 - (4 - k))).length (wdC (4 - (4 - k))) tx p q) (Classical.propDecidable _) (some (4 - (4 - k))) (wno tx p q (4 - k)) = _
      rw [e4]
    rw [h2] at h1
    cases hr : r
    · right
      rw [if_neg (fun z => by rw [g2.mpr z] at hr; cases hr)] at h1
      exact ⟨(), M', by rw [bI_f, if_pos rfl, nI_1], rfl, by rw [h1]; congr 1; omega⟩
    · left
      rw [if_pos (g2.mp hr)] at h1
      rw [if_neg (by decide), h1]
      rfl
theorem readWord_X {M : zM} (ht : tOk tx) (hp : p ≤ tx.length) (hM : tX M tx p) : ∃ M2, fScript_readWord M = some (oI (wno tx p (rnB ltr tx p) 5), M2) ∧ tX M2 tx (rnB ltr tx p) ∧ fq (fun c k => c = 56 ∧ k = 5) M M2 := by
  have ht1 := ht.1
  have aux : ∀ (fu r : Nat) (M : zM), tx.length < r + fu → p ≤ r → r ≤ tx.length → tX M tx r → ∃ M2, fScript_readWord_5 fu (nI p) M = some (oI (wno tx p (rnB ltr tx r) 5), M2) ∧ tX M2 tx (rnB ltr tx r) ∧ fq (fun c k => c = 56 ∧ k = 5) M M2 := by
    intro fu
    induction fu with
    | zero => intro r M h1 h2 h3; omega
    | succ fu ih =>
      intro r M h1 h2 h3 h4
      rw [fScript_readWord_5, h4.1, h4.2.2]
      by_cases hl : tx.length ≤ r
      · rw [if_pos (nI_le hl (by omega)), words_X ht h4 h2 h3, rnB_end hl]
        exact ⟨M, rfl, h4, fq_rf⟩
      · obtain ⟨b, hb, hb2⟩ := tOk_get ht (show r < tx.length by omega)
        rw [if_neg (nI_ge (by omega) (by omega)), isLetter_X ht h4 hb, cl_some]
        cases hf : ltr b
        · rw [bI_f, if_pos rfl, words_X ht h4 h2 h3, rnB_no hb hf]
          exact ⟨M, rfl, h4, fq_rf⟩
        · have hq : fq (fun c k => c = 56 ∧ k = 5) M (zs M 56 5 (nI (r + 1))) := fq_zs fq_rf ⟨rfl, rfl⟩
          obtain ⟨M2, g1, g2, g3⟩ := ih (r + 1) (zs M 56 5 (nI (r + 1))) (by omega) (by omega) (by omega) (tX_to h4 hq zs_eq)
          rw [bI_t, if_neg (by decide), wf_eq, h4.2.2, nI_1, rnB_go hb hf]
          exact ⟨M2, g1, g2, fq_tr hq g3⟩
  rw [fScript_readWord, lt_eq, hM.2.2]
  exact aux FU p M (by have : FU = 5000 := rfl; omega) (Nat.le_refl _) hp hM
end wdS
