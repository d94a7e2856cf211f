/-! PURE: numberPosts, in the class -/
/-- weights, from the last that came in to the first -/
def wUp (T : tT) : Nat → (Nat → Nat) → Nat → Nat
  | 0, w => w
  | i + 1, w => wUp T i (match tP T ((tO T).getD i 0) with | none => w | some pp => fup w pp (w pp + w ((tO T).getD i 0)))
abbrev eT : Type := (Nat → Nat) × (Nat → Nat) × Nat
def eStep (T : tT) (w : Nat → Nat) (q : Nat) (S : eT) : eT :=
  match tP T q with
  | none => (fup S.1 q S.2.2, fup S.2.1 q S.2.2, S.2.2 + w q)
  | some pp => (fup S.1 q (S.2.1 pp + 1), fup (fup S.2.1 q (S.2.1 pp + 1)) pp (fup S.2.1 q (S.2.1 pp + 1) pp + w q), S.2.2)
def eGo (T : tT) (w : Nat → Nat) : List Nat → eT → eT
  | [], S => S
  | q :: qs, S => eGo T w qs (eStep T w q S)
theorem nI_dec (i : Nat) : nI i + (-1) = nI i - 1 := by
  rw [Int32.sub_eq_add_neg]
theorem nI_dec1 (i : Nat) : nI (i + 1) - 1 = nI i := by
  rw [← nI_add, show nI 1 = (1 : Int32) from rfl, Int32.add_sub_cancel]
theorem wts_X {n : Nat} {E : List (Nat × Nat)} (hW : gW n E) {T : tT} (hT : tW n T) (hC : tC E T) : ∀ (i fuel : Nat) (M : zM) (w : Nat → Nat), i ≤ (tO T).length → i < fuel → SX M n T → (∀ q, q < 12 → M 13 q = nI (w q)) →
    ∃ M2, fTree_numberPosts_15 fuel (nI i - 1) M = fTree_numberPosts_66 FU 0 0 M2 ∧ (∀ q, q < 12 → M2 13 q = nI (wUp T i w q)) ∧ fr [13] [] M M2 := by
  intro i
  induction i with
  | zero =>
    intro fuel M w hi hf hS hM
    obtain ⟨fuel, rfl⟩ : ∃ k, fuel = k + 1 := ⟨fuel - 1, by omega⟩
    refine ⟨M, ?_, hM, fr_rf⟩
    rw [fTree_numberPosts_15, if_pos (by decide)]
  | succ i ih =>
    intro fuel M w hi hf hS hM
    obtain ⟨fuel, rfl⟩ : ∃ k, fuel = k + 1 := ⟨fuel - 1, by omega⟩
    have hn := hW.1.2
    have hlen := hT.len
    have hq := getD_of (show i < (tO T).length by omega)
    have hqm := List.mem_of_getElem? hq
    have hqn := hT.2.1 _ hqm
    rw [wUp]
    generalize (tO T).getD i 0 = q at *
    have h6 := (hS.2.2.2.2.2 q hqm).1
    rw [nI_dec1, fTree_numberPosts_15, if_neg (nI_nlt0 (show i < 2 ^ 31 by omega)), rd_ok (show i < 12 by omega) (by decide), hS.2.2.2.2.1 i q hq, rd_ok (show q < 12 by omega) (by decide), h6, nI_dec]
    rcases (hC q hqm).2 with h | ⟨pp, hpm, h, _⟩
    · rw [h.1]
      show ∃ M2, (if oI none = -1 then _ else _) = _ ∧ _
      rw [if_pos (show oI none = -1 from rfl)]
      exact ih fuel M w (by omega) (by omega) hS hM
    · have hpn := hT.2.1 _ hpm
      rw [h]
      show ∃ M2, (if nI pp = -1 then _ else _) = _ ∧ _
      rw [if_neg (nI_m1 pp (by omega)), rd_ok (show q < 12 by omega) (by decide), h6, h]
      show ∃ M2, rd M 13 12 (nI pp) _ = _ ∧ _
      rw [rd_ok (show pp < 12 by omega) (by decide), rd_ok (show q < 12 by omega) (by decide)]
      show ∃ M2, wr M 13 12 (nI pp) _ _ = _ ∧ _
      rw [wr_ok (show pp < 12 by omega) (by decide), hM pp (by omega), hM q (by omega), nI_add]
      have hfr : fr [13] [] M (zs M 13 pp (nI (w pp + w q))) := fr_zs fr_rf rfl
      obtain ⟨M2, h1, h2, h3⟩ := ih fuel (zs M 13 pp (nI (w pp + w q))) (fup w pp (w pp + w q)) (by omega) (by omega) (hS.kept ⟨hfr 5 1 rfl rfl, hfr 5 2 rfl rfl, hfr 5 10 rfl rfl, hfr 5 11 rfl rfl⟩ ⟨fr_row hfr 6 rfl, fr_row hfr 7 rfl, fr_row hfr 8 rfl, fr_row hfr 12 rfl⟩) (fun x hx => by
        by_cases hxp : x = pp
        · rw [hxp, zs_eq, fup_eq]
        · rw [zs_nk hxp, fup_ne hxp]
          exact hM x hx)
      exact ⟨M2, h1, h2, fr_tr hfr h3⟩
theorem ent_X {n : Nat} {E : List (Nat × Nat)} (hW : gW n E) {T : tT} (hT : tW n T) (hC : tC E T) {w : Nat → Nat} : ∀ (d i fuel : Nat) (M : zM) (S : eT), (tO T).length - i = d → i ≤ (tO T).length → d < fuel → SX M n T → (∀ q, q < 12 → M 13 q = nI (w q)) → (∀ j q, j < i → (tO T)[j]? = some q → M 9 q = nI (S.1 q) ∧ M 10 q = nI (S.2.1 q)) → tH T →
    ∃ M2, fTree_numberPosts_66 fuel (nI S.2.2) (nI i) M = some ((), M2) ∧ (∀ q ∈ tO T, M2 9 q = nI ((eGo T w ((tO T).drop i) S).1 q) ∧ M2 10 q = nI ((eGo T w ((tO T).drop i) S).2.1 q)) ∧ fr [9, 10] [] M M2 := by
  intro d
  induction d with
  | zero =>
    intro i fuel M S hd hi hf hS h13 hM hH
    obtain ⟨fuel, rfl⟩ : ∃ k, fuel = k + 1 := ⟨fuel - 1, by omega⟩
    have hn := hW.1.2
    have hlen := hT.len
    refine ⟨M, ?_, fun q hq => ?_, fr_rf⟩
    · rw [fTree_numberPosts_66, if_pos (by rw [hS.1]; exact nI_le (by omega) (by omega))]
    · rw [List.drop_of_length_le (by omega), eGo]
      obtain ⟨j, hj⟩ := List.getElem?_of_mem hq
      exact hM j q (by have := (List.getElem?_eq_some_iff.mp hj).1; omega) hj
  | succ d ih =>
    intro i fuel M S hd hi hf hS h13 hM hH
    obtain ⟨fuel, rfl⟩ : ∃ k, fuel = k + 1 := ⟨fuel - 1, by omega⟩
    have hn := hW.1.2
    have hlen := hT.len
    have hil : i < (tO T).length := by omega
    obtain ⟨q, hq⟩ : ∃ q, (tO T)[i]? = some q := ⟨_, List.getElem?_eq_getElem hil⟩
    have hqm := List.mem_of_getElem? hq
    have hqn := hT.2.1 _ hqm
    have hq12 : q < 12 := by omega
    have h6 := (hS.2.2.2.2.2 q hqm).1
    have hdr : (tO T).drop i = q :: (tO T).drop (i + 1) := drop_cons hq
    have hnd : ∀ j x, j < i → (tO T)[j]? = some x → ¬ x = q := by
      intro j x hj hx e
      obtain ⟨h1, h2⟩ := List.getElem?_eq_some_iff.mp hq
      obtain ⟨h3, h4⟩ := List.getElem?_eq_some_iff.mp hx
      exact List.pairwise_iff_getElem.mp hT.1 j i h3 h1 hj (h4.trans (e.trans h2.symm))
    rw [hdr, eGo, fTree_numberPosts_66, if_neg (by rw [hS.1]; exact nI_ge hil (by omega)), rd_ok (show i < 12 by omega) (by decide), hS.2.2.2.2.1 i q hq, rd_ok hq12 (by decide), h6]
    rcases (hC q hqm).2 with h | ⟨pp, hpm, h, _⟩
    · rw [h.1]
      show ∃ M2, (if ¬ oI none = -1 then _ else _) = _ ∧ _
      rw [if_neg (show ¬ ¬ oI none = -1 from fun z => z rfl), fTree_numberPosts_113, wr_ok hq12 (by decide), rd_ok hq12 (by decide), zs_eq, wr_ok hq12 (by decide)]
      show ∃ M2, (if ¬ oI none = -1 then _ else _) = _ ∧ _
      rw [if_neg (show ¬ ¬ oI none = -1 from fun z => z rfl), rd_ok hq12 (by decide), lt_eq, nI_1]
      have hfr : fr [9, 10] [] M (zs (zs M 9 q (nI S.2.2)) 10 q (nI S.2.2)) := fr_zs (fr_zs fr_rf rfl) rfl
      have hst : eStep T w q S = (fup S.1 q S.2.2, fup S.2.1 q S.2.2, S.2.2 + w q) := by unfold eStep; rw [h.1]
      rw [hfr 13 q rfl rfl, h13 q hq12, nI_add, hst]
      obtain ⟨M2, h1, h2, h3⟩ := ih (i + 1) fuel (zs (zs M 9 q (nI S.2.2)) 10 q (nI S.2.2)) (fup S.1 q S.2.2, fup S.2.1 q S.2.2, S.2.2 + w q) (by omega) (by omega) (by omega) (hS.kept ⟨hfr 5 1 rfl rfl, hfr 5 2 rfl rfl, hfr 5 10 rfl rfl, hfr 5 11 rfl rfl⟩ ⟨fr_row hfr 6 rfl, fr_row hfr 7 rfl, fr_row hfr 8 rfl, fr_row hfr 12 rfl⟩) (fun x hx => by rw [hfr 13 x rfl rfl]; exact h13 x hx) (fun j x hj hx => by
        show _ = nI (fup S.1 q S.2.2 x) ∧ _ = nI (fup S.2.1 q S.2.2 x)
        by_cases hji : j = i
        · rw [hji] at hx
          have hxq : x = q := Option.some.inj (hx.symm.trans hq)
          rw [hxq, zs_eq, zs_nc (by decide), zs_eq, fup_eq, fup_eq]
          exact ⟨rfl, rfl⟩
        · have hxq := hnd j x (by omega) hx
          have hMx := hM j x (by omega) hx
          rw [fup_ne hxq, fup_ne hxq]
          refine ⟨?_, ?_⟩
          · rw [zs_nc (by decide), zs_nk hxq]
            exact hMx.1
          · rw [zs_nk hxq, zs_nc (by decide)]
            exact hMx.2) hH
      exact ⟨M2, h1, h2, fr_tr hfr h3⟩
    · have hpn := hT.2.1 _ hpm
      have hp12 : pp < 12 := by omega
      obtain ⟨ip, hip, hipp⟩ := hH i q pp hq h
      have hpq := hnd ip pp hip hipp
      have hMp := hM ip pp hip hipp
      have hm1 := nI_m1 pp (by omega)
      rw [h]
      show ∃ M2, (if ¬ nI pp = -1 then rd M 10 12 (nI pp) _ else _) = _ ∧ _
      rw [if_pos hm1, rd_ok hp12 (by decide), hMp.2, nI_1, fTree_numberPosts_113, wr_ok hq12 (by decide), rd_ok hq12 (by decide), zs_eq, wr_ok hq12 (by decide)]
      show ∃ M2, (if ¬ nI pp = -1 then rd _ 10 12 (nI pp) _ else _) = _ ∧ _
      rw [if_pos hm1, rd_ok hp12 (by decide), rd_ok hq12 (by decide)]
      show ∃ M2, wr _ 10 12 (nI pp) _ _ = _ ∧ _
      rw [wr_ok hp12 (by decide), zs_nk hpq, zs_nc (by decide), hMp.2, zs_nc (by decide), zs_nc (by decide), h13 q hq12, nI_add, nI_1]
      have hfr : fr [9, 10] [] M (zs (zs (zs M 9 q (nI (S.2.1 pp + 1))) 10 q (nI (S.2.1 pp + 1))) 10 pp (nI (S.2.1 pp + w q))) := fr_zs (fr_zs (fr_zs fr_rf rfl) rfl) rfl
      have hst : eStep T w q S = (fup S.1 q (S.2.1 pp + 1), fup (fup S.2.1 q (S.2.1 pp + 1)) pp (S.2.1 pp + w q), S.2.2) := by
        unfold eStep
        rw [h]
        show (_, fup _ pp (fup S.2.1 q (S.2.1 pp + 1) pp + w q), _) = _
        rw [fup_ne hpq]
      rw [hst]
      obtain ⟨M2, h1, h2, h3⟩ := ih (i + 1) fuel _ (fup S.1 q (S.2.1 pp + 1), fup (fup S.2.1 q (S.2.1 pp + 1)) pp (S.2.1 pp + w q), S.2.2) (by omega) (by omega) (by omega) (hS.kept ⟨hfr 5 1 rfl rfl, hfr 5 2 rfl rfl, hfr 5 10 rfl rfl, hfr 5 11 rfl rfl⟩ ⟨fr_row hfr 6 rfl, fr_row hfr 7 rfl, fr_row hfr 8 rfl, fr_row hfr 12 rfl⟩) (fun x hx => by rw [hfr 13 x rfl rfl]; exact h13 x hx) (fun j x hj hx => by
        show _ = nI (fup S.1 q (S.2.1 pp + 1) x) ∧ _ = nI (fup (fup S.2.1 q (S.2.1 pp + 1)) pp (S.2.1 pp + w q) x)
        by_cases hji : j = i
        · rw [hji] at hx
          have hxq : x = q := Option.some.inj (hx.symm.trans hq)
          rw [hxq, zs_nc (by decide), zs_nc (by decide), zs_eq, zs_nk (fun z => hpq z.symm), zs_eq, fup_eq, fup_ne (fun z => hpq z.symm), fup_eq]
          exact ⟨rfl, rfl⟩
        · have hxq := hnd j x (by omega) hx
          have hMx := hM j x (by omega) hx
          rw [zs_nc (by decide), zs_nc (by decide), zs_nk hxq, fup_ne hxq]
          refine ⟨hMx.1, ?_⟩
          by_cases hxp : x = pp
          · rw [hxp, zs_eq, fup_eq]
          · rw [zs_nk hxp, zs_nk hxq, zs_nc (by decide), fup_ne hxp, fup_ne hxq]
            exact hMx.2) hH
      exact ⟨M2, h1, h2, fr_tr hfr h3⟩
def tWt (T : tT) : Nat → Nat := wUp T (tO T).length (fun _ => 1)
def tEL (T : tT) : eT := eGo T (tWt T) (tO T) (fun _ => 0, fun _ => 0, 0)
theorem number_X {n : Nat} {E : List (Nat × Nat)} (hW : gW n E) {T : tT} (hT : tW n T) (hC : tC E T) (hH : tH T) {M : zM} (hS : SX M n T) :
    ∃ M2, fTree_numberPosts M = some ((), M2) ∧ (∀ q ∈ tO T, M2 9 q = nI ((tEL T).1 q) ∧ M2 10 q = nI ((tEL T).2.1 q)) ∧ fr [9, 10, 13] [] M M2 := by
  have hn := hW.1.2
  have hlen := hT.len
  obtain ⟨M1, a1, a2, a3⟩ := fill_ok (c := 13) (N := 12) (by omega) 1 M
  have hfr1 : fr [9, 10, 13] [] M M1 := fun c k hc _ => a3 c k (fun z => by rw [z.1] at hc; cases hc)
  have hS1 : SX M1 n T := hS.kept ⟨hfr1 5 1 rfl rfl, hfr1 5 2 rfl rfl, hfr1 5 10 rfl rfl, hfr1 5 11 rfl rfl⟩ ⟨fr_row hfr1 6 rfl, fr_row hfr1 7 rfl, fr_row hfr1 8 rfl, fr_row hfr1 12 rfl⟩
  obtain ⟨M2, b1, b2, b3⟩ := wts_X hW hT hC (tO T).length FU M1 (fun _ => 1) (by omega) (by unfold FU; omega) hS1 (fun x hx => a2 x hx)
  have hS2 : SX M2 n T := hS1.kept ⟨b3 5 1 rfl rfl, b3 5 2 rfl rfl, b3 5 10 rfl rfl, b3 5 11 rfl rfl⟩ ⟨fr_row b3 6 rfl, fr_row b3 7 rfl, fr_row b3 8 rfl, fr_row b3 12 rfl⟩
  obtain ⟨M3, c1, c2, c3⟩ := ent_X hW hT hC (w := tWt T) (tO T).length 0 FU M2 (fun _ => 0, fun _ => 0, 0) (by omega) (by omega) (by unfold FU; omega) hS2 b2 (fun j x hj _ => absurd hj (by omega)) hH
  refine ⟨M3, ?_, c2, fr_tr hfr1 (fr_tr (fr_mono b3 (fun c hc => by simp at hc ⊢; exact hc.2.2) (fun _ _ _ => rfl)) (fr_mono c3 (fun c hc => by simp at hc ⊢; exact ⟨hc.1, hc.2.1⟩) (fun _ _ _ => rfl)))⟩
  unfold fTree_numberPosts
  rw [a1, cl_some, lt_eq, hS1.1, b1]
  rw [← nI_0]
  exact c1
