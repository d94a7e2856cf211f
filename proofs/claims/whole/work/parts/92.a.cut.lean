/-! PURE: the fewest lines that part -/
def srW (g : Nat → Nat → Option (List Nat)) : Nat → Nat → Nat → Option (List Nat)
  | 0, _, _ => none
  | d + 1, l, w => match g (l + 1) (w ||| 2 ^ l) with
    | some r => some (l :: r)
    | none => srW g d (l + 1) w
def srK (P : Nat → Bool) (len : Nat) : Nat → Nat → Nat → Option (List Nat)
  | 0, _, w => if P w = true then some [] else none
  | k + 1, f, w => srW (srK P len k) (len - f) f w
def mkL : List Nat → Nat
  | [] => 0
  | l :: r => mkL r ||| 2 ^ l
theorem srW_hit {g : Nat → Nat → Option (List Nat)} {len l w : Nat} {r : List Nat} (hl : l < len) (h : g (l + 1) (w ||| 2 ^ l) = some r) : srW g (len - l) l w = some (l :: r) := by
  rw [show len - l = (len - l - 1) + 1 by omega, srW, h]
theorem srW_miss {g : Nat → Nat → Option (List Nat)} {len l w : Nat} (hl : l < len) (h : g (l + 1) (w ||| 2 ^ l) = none) : srW g (len - l) l w = srW g (len - (l + 1)) (l + 1) w := by
  rw [show len - l = (len - (l + 1)) + 1 by omega, srW, h]
theorem srK_mem {P : Nat → Bool} {len : Nat} : ∀ (k f w : Nat) (ls : List Nat), srK P len k f w = some ls → ls.length = k ∧ ∀ l ∈ ls, l < len := by
  intro k
  induction k with
  | zero =>
    intro f w ls h
    rw [srK] at h
    split at h
    · cases Option.some.inj h
      exact ⟨rfl, fun l hl => (by cases hl)⟩
    · cases h
  | succ k ih =>
    intro f w ls h
    rw [srK] at h
    have key : ∀ (d l : Nat), l + d ≤ len ∨ d = 0 → srW (srK P len k) d l w = some ls → ls.length = k + 1 ∧ ∀ l ∈ ls, l < len := by
      intro d
      induction d with
      | zero =>
        intro l _ h
        cases h
      | succ d ihd =>
        intro l hl h
        rw [srW] at h
        cases hg : srK P len k (l + 1) (w ||| 2 ^ l) with
        | some r =>
          rw [hg] at h
          cases Option.some.inj h
          obtain ⟨h1, h2⟩ := ih (l + 1) (w ||| 2 ^ l) r hg
          refine ⟨by rw [List.length_cons, h1], fun x hx => ?_⟩
          rcases List.mem_cons.mp hx with z | z
          · omega
          · exact h2 x z
        | none =>
          rw [hg] at h
          exact ihd (l + 1) (by omega) h
    exact key (len - f) f (by omega) h
theorem mkL_lt {len : Nat} : ∀ (ls : List Nat), (∀ l ∈ ls, l < len) → mkL ls < 2 ^ len
  | [], _ => Nat.two_pow_pos _
  | l :: r, h => or_lt (mkL_lt r (fun x hx => h x (List.mem_cons_of_mem _ hx))) (pow_ltk (h l List.mem_cons_self))
/-- nothing found: no set of so many lines works -/
theorem srK_none {P : Nat → Bool} {len : Nat} (hlen : len ≤ 30) : ∀ (k f w v : Nat), srK P len k f w = none → v < 2 ^ len → popc v = k → (∀ j, v.testBit j = true → f ≤ j) → P (w ||| v) = false := by
  intro k
  induction k with
  | zero =>
    intro f w v h hv hp hf
    have hv0 : v = 0 := by
      apply Nat.eq_of_testBit_eq
      intro j
      rw [Nat.zero_testBit]
      by_cases hj : j < 32
      · exact (fb_ct_zero.mp hp) j hj
      · exact Nat.testBit_lt_two_pow (Nat.lt_of_lt_of_le hv (Nat.pow_le_pow_right (by decide) (by omega)))
    rw [srK] at h
    rw [hv0, Nat.or_zero]
    cases hP : P w with
    | false => rfl
    | true =>
      rw [hP] at h
      cases h
  | succ k ih =>
    intro f w v h hv hp hf
    obtain ⟨j0, -, hj0⟩ := fb_ct_pos.mp (show 0 < fb_ct (fun i => v.testBit i) 32 by unfold popc at hp; omega)
    obtain ⟨l, hl1, hl2, hl3⟩ := fb_first (p := fun j => v.testBit j = true) (n := j0 + 1) ⟨j0, by omega, hj0⟩
    have hll : l < len := by
      rcases Nat.lt_or_ge l len with z | z
      · exact z
      · rw [Nat.testBit_lt_two_pow (Nat.lt_of_lt_of_le hv (Nat.pow_le_pow_right (by decide) z))] at hl2
        cases hl2
    have hlf := hf l hl2
    have hv2 : (v ^^^ 2 ^ l).testBit l = false := by rw [fb_bit_flip, hl2]; simp
    have hv3 : v = (v ^^^ 2 ^ l) ||| 2 ^ l := by
      apply Nat.eq_of_testBit_eq
      intro i
      rw [fb_bit_set, fb_bit_flip]
      by_cases hi : i = l
      · simp [hi, hl2]
      · simp [hi]
    have hv4 : v ^^^ 2 ^ l < 2 ^ len := xor_lt hv (pow_ltk hll)
    have hp2 : popc (v ^^^ 2 ^ l) = k := by
      have := popc_or (m := v ^^^ 2 ^ l) (l := l) (by omega) hv2
      rw [← hv3] at this
      omega
    have hf2 : ∀ j, (v ^^^ 2 ^ l).testBit j = true → l + 1 ≤ j := fun j hj => by
      have hjl : ¬ j = l := fun z => by rw [z, hv2] at hj; cases hj
      rw [fb_bit_flip] at hj
      simp [hjl] at hj
      rcases Nat.lt_or_ge j l with z | z
      · exact absurd hj (hl3 j z)
      · omega
    rw [srK] at h
    have key : ∀ (d x : Nat), x + d = len → x ≤ l → srW (srK P len k) d x w = none → srK P len k (l + 1) (w ||| 2 ^ l) = none := by
      intro d
      induction d with
      | zero =>
        intro x h1 h2 _
        omega
      | succ d ihd =>
        intro x h1 h2 h3
        rw [srW] at h3
        cases hg : srK P len k (x + 1) (w ||| 2 ^ x) with
        | some r =>
          rw [hg] at h3
          cases h3
        | none =>
          rw [hg] at h3
          by_cases hxl : x = l
          · rw [hxl] at hg
            exact hg
          · exact ihd (x + 1) (by omega) (by omega) h3
    have hg := key (len - f) f (by omega) hlf h
    have := ih (l + 1) (w ||| 2 ^ l) (v ^^^ 2 ^ l) hg hv4 hp2 hf2
    rw [show w ||| v = w ||| 2 ^ l ||| (v ^^^ 2 ^ l) by
      conv => lhs; rw [hv3]
      rw [Nat.or_comm (v ^^^ 2 ^ l), Nat.or_assoc]]
    exact this
theorem sub_same {w s : Nat} (hs : s < 2 ^ 32) (hw : w &&& s = w) (hp : popc s ≤ popc w) : w = s := by
  apply Nat.eq_of_testBit_eq
  intro j
  have hsub : ∀ i, w.testBit i = true → s.testBit i = true := fun i hi => by
    rw [← hw, Nat.testBit_and, Bool.and_eq_true] at hi
    exact hi.2
  by_cases hj : j < 32
  · cases hwj : w.testBit j with
    | true => rw [hsub j hwj]
    | false =>
      cases hsj : s.testBit j with
      | false => rfl
      | true =>
        exfalso
        have h1 := fb_ct_upd (fun i => w.testBit i) true hj
        simp only [hwj, Bool.false_eq_true, if_false, if_true] at h1
        have h2 : fb_ct (fun k => if k = j then true else w.testBit k) 32 ≤ fb_ct (fun i => s.testBit i) 32 := fb_ct_sub (fun k _ hk => by
          by_cases hkj : k = j
          · rw [hkj]
            exact hsj
          · simp only [hkj, if_false] at hk
            exact hsub k hk)
        unfold popc at hp
        omega
  · have h1 : s.testBit j = false := Nat.testBit_lt_two_pow (Nat.lt_of_lt_of_le hs (Nat.pow_le_pow_right (by decide) (by omega)))
    rw [h1, Bool.eq_false_iff]
    intro z
    rw [hsub j z] at h1
    cases h1
/-! sums when one more line comes -/
theorem xsL_or {L : Nat → Nat} {w x : Nat} (hw : w.testBit x = false) : ∀ len, xsL L (w ||| 2 ^ x) len = if x < len then xsL L w len ^^^ L x else xsL L w len
  | 0 => by rw [if_neg (by omega)]; rfl
  | len + 1 => by
    have ih := xsL_or (L := L) hw len
    rw [xsL, xsL, fb_bit_set, ih]
    by_cases hx : len = x
    · rw [hx, hw]
      simp
    · have e : (x < len + 1) ↔ x < len := by omega
      simp only [e, decide_eq_false hx, Bool.or_false]
      by_cases hxl : x < len
      · rw [if_pos hxl, if_pos hxl]
        split
        · rw [Nat.xor_assoc, Nat.xor_comm (L x), ← Nat.xor_assoc]
        · rfl
      · rw [if_neg hxl, if_neg hxl]
theorem odd_or {w x bt : Nat} (hx : x < 32) (hw : w.testBit x = false) : popc ((w ||| 2 ^ x) &&& bt) % 2 = (popc (w &&& bt) % 2) ^^^ (bt.testBit x).toNat := by
  rw [Nat.and_comm, popc_and1 hx hw, Nat.and_comm bt w]
  cases bt.testBit x with
  | false => simp
  | true =>
    rcases Nat.mod_two_eq_zero_or_one (popc (w &&& bt)) with z | z
    · rw [z, show (popc (w &&& bt) + true.toNat) % 2 = 1 by simp; omega]
      rfl
    · rw [z, show (popc (w &&& bt) + true.toNat) % 2 = 0 by simp; omega]
      rfl
/-! the class searches -/
section ctS
variable {n : Nat} {E : List (Nat × Nat)}
theorem mkL_cons_I {l : Nat} {r : List Nat} (hl : l < 31) : nI (mkL r) ||| zshl 1 (nI l) = nI (mkL (l :: r)) := by
  rw [zshl_pow hl, fa_or]
  rfl
def oL : Option (List Nat) → Int32
  | some ls => nI (mkL ls)
  | none => -1
theorem search_X {M : zM} (hW : gW n E) (hN : NetX M n E) (hT : TX M n E) {a b : Nat} : ∀ (k d f w : Nat), k < d → k ≤ 3 → f ≤ E.length → (∀ j, w.testBit j = true → j < f) → fCuts_search d (nI f) (nI k) (nI (xsL (gNm n E) w E.length)) (nI (popc (w &&& gBt n E a b) % 2)) (nI (gBt n E a b)) M = some (oL (srK (wk n E a b) E.length k f w), M) := by
  have hl := hW.2.1
  have hxb := fun (w : Nat) => xsL_lt (w := w) (gNm_lt hW) E.length (Nat.le_refl _)
  have hbl := gBt_lt hW a b
  intro k
  induction k with
  | zero =>
    intro d f w hd _ hf hwf
    obtain ⟨d, rfl⟩ : ∃ k, d = k + 1 := ⟨d - 1, by omega⟩
    have hx := hxb w
    rw [fCuts_search, fCuts_search_b, if_neg (by decide), srK]
    unfold wk wkL
    by_cases h0 : xsL (gNm n E) w E.length = 0
    · rw [if_neg (by rw [h0]; exact not_not_intro rfl), decide_eq_true h0, Bool.true_and]
      by_cases h1 : popc (w &&& gBt n E a b) % 2 = 1
      · rw [if_neg (by rw [h1]; exact not_not_intro rfl), if_pos (decide_eq_true h1)]
        rfl
      · rw [if_pos (show ¬ nI (popc (w &&& gBt n E a b) % 2) = 1 from fun z => h1 ((nI_eq (b := 1) (by omega) (by decide)).mp z)), if_neg (fun z => h1 (of_decide_eq_true z))]
        rfl
    · rw [if_pos (nI_ne0 (by omega) (by omega)), decide_eq_false h0, Bool.false_and, if_neg (by decide)]
      rfl
  | succ k ih =>
    intro d f w hd hk hf hwf
    obtain ⟨d, rfl⟩ : ∃ k, d = k + 1 := ⟨d - 1, by omega⟩
    rw [fCuts_search, fCuts_search_b, if_pos (show (0 : Int32) < nI (k + 1) from nI_lt (a := 0) (by omega) (by omega)), srK]
    have := lpE (f := fun fu i (_ : Unit) M => fCuts_search_23 (fCuts_search d) fu (nI (k + 1)) (nI (xsL (gNm n E) w E.length)) (nI (popc (w &&& gBt n E a b) % 2)) (nI (gBt n E a b)) (nI (f + i)) M) (n := E.length - f)
      (I := fun i _ M' => M' = M ∧ srW (srK (wk n E a b) E.length k) (E.length - f) f w = srW (srK (wk n E a b) E.length k) (E.length - (f + i)) (f + i) w)
      (R := fun o => o = some (oL (srW (srK (wk n E a b) E.length k) (E.length - f) f w), M)) ?_ ?_ 0 FU () M (Nat.zero_le _) (fu_ok (by omega)) ⟨rfl, rfl⟩
    · exact this
    · rintro fu - M' ⟨rfl, h1⟩
      rw [show f + (E.length - f) = E.length by omega, Nat.sub_self] at h1
      rw [fCuts_search_23, hN.2.1, show f + (E.length - f) = E.length by omega, if_pos (nI_le (Nat.le_refl _) (by omega)), h1]
      rfl
    · rintro fu i - M' hi ⟨rfl, h1⟩
      have hlt : f + i < E.length := by omega
      have hno : w.testBit (f + i) = false := by
        rw [Bool.eq_false_iff]
        intro z
        have := hwf _ z
        omega
      have e1 : xsL (gNm n E) w E.length ^^^ gNm n E (f + i) = xsL (gNm n E) (w ||| 2 ^ (f + i)) E.length := by rw [xsL_or hno, if_pos hlt]
      have e2 : nI (popc (w &&& gBt n E a b) % 2) ^^^ bI ((gBt n E a b).testBit (f + i)) = nI (popc ((w ||| 2 ^ (f + i)) &&& gBt n E a b) % 2) := by rw [bI_nI, fb_xorI, odd_or (by omega) hno]
      have hrec := ih d (f + i + 1) (w ||| 2 ^ (f + i)) (by omega) (by omega) (by omega) (fun j hj => by
        rw [fb_bit_set, Bool.or_eq_true, decide_eq_true_eq] at hj
        rcases hj with z | z
        · have := hwf j z
          omega
        · omega)
      rw [fCuts_search_23, hN.2.1, if_neg (nI_ge hlt (by omega)), rd_ok (show f + i < 30 by omega) (by decide), hT.2.2 _ hlt, nI_1, nI_pred, show nI (gLN E (gTree n E) (f + i)) = nI (gNm n E (f + i)) from rfl, fb_xorI, e1, zbit (by omega) (by omega), e2, hrec, cl_some]
      cases hs : srK (wk n E a b) E.length k (f + i + 1) (w ||| 2 ^ (f + i)) with
      | some r =>
        left
        have hm := srK_mem _ _ _ _ hs
        have hmk : mkL r < 2 ^ 30 := Nat.lt_of_lt_of_le (mkL_lt r hm.2) (Nat.pow_le_pow_right (by decide) hl)
        rw [h1, srW_hit hlt hs, if_neg (show ¬ oL (some r) = -1 from nI_m1 _ (by omega))]
        show some (nI (mkL r) ||| zshl 1 (nI (f + i)), M') = _
        rw [mkL_cons_I (by omega)]
        rfl
      | none =>
        right
        rw [if_pos (show oL none = -1 from rfl)]
        exact ⟨(), M', rfl, rfl, by rw [h1, srW_miss hlt hs]; rfl⟩
/-- what cut answers for posts of one tree -/
def gCut (n : Nat) (E : List (Nat × Nat)) (a b : Nat) : Int32 := match srK (wk n E a b) E.length 1 0 0 with
  | some ls => nI (mkL ls)
  | none => match srK (wk n E a b) E.length 2 0 0 with
    | some ls => nI (mkL ls)
    | none => oL (srK (wk n E a b) E.length 3 0 0)
theorem fewest_X {M : zM} (hW : gW n E) (hN : NetX M n E) (hC : CX M n E) {a b : Nat} (ha : a < n) (hb : b < n) : ∃ M2, fCuts_fewest (nI a) (nI b) M = some (if tR (gTree n E) a = tR (gTree n E) b then gCut n E a b else 0, M2) ∧ CX M2 n E ∧ fq zL M M2 := by
  have hn := hW.1.2
  have hl := hW.2.1
  obtain ⟨M1, a1, a2, a3, a4, a5⟩ := fresh_q hW hN hC
  have f1 : fq zL M M1 := fq_mono a5 (fun c k h => by omega)
  have ra := a2.1.2.2.2.2.2 a (gTree_mem ha)
  have rb := a2.1.2.2.2.2.2 b (gTree_mem hb)
  refine ⟨M1, ?_, a3, f1⟩
  rw [fCuts_fewest, a1, cl_some, if_pos rfl, rd_ok (show a < 12 by omega) (by decide), rd_ok (show b < 12 by omega) (by decide), ra.2.1, rb.2.1, rd_ok (show a < 12 by omega) (by decide), rd_ok (show b < 12 by omega) (by decide), ra.2.2, rb.2.2, fb_xorI, lt_eq]
  simp only [root_eq hW ha hb]
  by_cases hr : tR (gTree n E) a = tR (gTree n E) b
  · rw [if_pos hr, if_pos hr]
    have hx0 : xsL (gNm n E) 0 E.length = 0 := by
      have : ∀ l, xsL (gNm n E) 0 l = 0 := by
        intro l
        induction l with
        | zero => rfl
        | succ l ih => rw [xsL, Nat.zero_testBit, if_neg (by decide), ih]
      exact this _
    have hsr : ∀ k, k ≤ 3 → fCuts_search 8 0 (nI k) 0 0 (nI (gBt n E a b)) M1 = some (oL (srK (wk n E a b) E.length k 0 0), M1) := fun k hk => by
      have := search_X hW a4 a2 (a := a) (b := b) k 8 0 0 (by omega) hk (by omega) (fun j hj => by rw [Nat.zero_testBit] at hj; cases hj)
      rw [hx0, Nat.zero_and] at this
      exact this
    have hmk : ∀ k ls, srK (wk n E a b) E.length k 0 0 = some ls → ¬ nI (mkL ls) = -1 := fun k ls h => by
      have hm := srK_mem _ _ _ _ h
      have : mkL ls < 2 ^ 30 := Nat.lt_of_lt_of_le (mkL_lt ls hm.2) (Nat.pow_le_pow_right (by decide) hl)
      exact nI_m1 _ (by omega)
    have hsr1 : fCuts_search 8 0 1 0 0 (nI (gBt n E a b)) M1 = some (oL (srK (wk n E a b) E.length 1 0 0), M1) := hsr 1 (by decide)
    show fCuts_fewest_43 FU (nI (gBt n E a b)) 1 M1 = _
    rw [show FU = 4996 + 1 + 1 + 1 + 1 from rfl, fCuts_fewest_43, if_neg (by decide), hsr1, cl_some]
    unfold gCut
    cases h1 : srK (wk n E a b) E.length 1 0 0 with
    | some ls =>
      rw [if_neg (show ¬ oL (some ls) = -1 from hmk 1 ls h1)]
      rfl
    | none =>
      rw [if_pos (show oL none = -1 from rfl), show (1 : Int32) + 1 = nI 2 from rfl, fCuts_fewest_43, if_neg (by decide), hsr 2 (by decide), cl_some]
      cases h2 : srK (wk n E a b) E.length 2 0 0 with
      | some ls =>
        rw [if_neg (show ¬ oL (some ls) = -1 from hmk 2 ls h2)]
        rfl
      | none =>
        rw [if_pos (show oL none = -1 from rfl), show nI 2 + 1 = nI 3 from rfl, fCuts_fewest_43, if_neg (by decide), hsr 3 (by decide), cl_some]
        cases h3 : srK (wk n E a b) E.length 3 0 0 with
        | some ls =>
          rw [if_neg (show ¬ oL (some ls) = -1 from hmk 3 ls h3)]
        | none =>
          rw [if_pos (show oL none = -1 from rfl), show nI 3 + 1 = nI 4 from rfl, fCuts_fewest_43, if_pos (by decide)]
          rfl
  · rw [if_neg hr, if_neg hr]
end ctS
