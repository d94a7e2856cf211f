/-! PURE: whether lines part two posts -/
section ptS
variable {n : Nat} {E : List (Nat × Nat)}
def gNm (n : Nat) (E : List (Nat × Nat)) (l : Nat) : Nat := gLN E (gTree n E) l
def gBt (n : Nat) (E : List (Nat × Nat)) (a b : Nat) : Nat := tA (gTree n E) a ^^^ tA (gTree n E) b
def wk (n : Nat) (E : List (Nat × Nat)) (a b w : Nat) : Bool := wkL (gNm n E) E.length (gBt n E a b) w
def PT (n : Nat) (E : List (Nat × Nat)) (a b set : Nat) : Prop := ¬ tR (gTree n E) a = tR (gTree n E) b ∨ ∃ w, w &&& set = w ∧ wk n E a b w = true
theorem gNm_lt (hW : gW n E) : ∀ l, l < E.length → gNm n E l < 2 ^ 30 := fun l hl => by
  have := hW.2.1
  unfold gNm gLN
  split
  · exact mkM_lt _ _
  · exact pow_ltk (by omega)
theorem gBt_lt (hW : gW n E) (a b : Nat) : gBt n E a b < 2 ^ 30 := xor_lt (tA_lt hW a) (tA_lt hW b)
theorem give_X {M : zM} (hW : gW n E) (hN : NetX M n E) (hT : TX M n E) {w : Nat} (hw : w < 2 ^ 30) : fCuts_namesGiveNothing (nI w) M = some (bI (decide (xsL (gNm n E) w E.length = 0)), M) := by
  have hl := hW.2.1
  have hb := fun l hl => xsL_lt (w := w) (gNm_lt hW) l hl
  rw [fCuts_namesGiveNothing]
  refine lpE (f := fun fu l (_ : Unit) M => fCuts_namesGiveNothing_4 fu (nI w) (nI (xsL (gNm n E) w l)) (nI l) M) (n := E.length)
    (I := fun l _ M' => M' = M) (R := fun o => o = some (bI (decide (xsL (gNm n E) w E.length = 0)), M)) ?_ ?_ 0 FU () M (by omega) (fu_ok (by omega)) rfl
  · rintro fu - M' rfl
    have := hb E.length (Nat.le_refl _)
    rw [fCuts_namesGiveNothing_4, hN.2.1, if_pos (nI_le (by omega) (by omega)), zbl_0, zbl_1]
    by_cases h0 : xsL (gNm n E) w E.length = 0
    · rw [if_neg (by rw [h0]; exact not_not_intro rfl), decide_eq_true h0]
      rfl
    · rw [if_pos (nI_ne0 (by omega) (by omega)), decide_eq_false h0]
      rfl
  · rintro fu l - M' hll rfl
    right
    refine ⟨(), M', ?_, rfl⟩
    rw [fCuts_namesGiveNothing_4, hN.2.1, if_neg (nI_ge hll (by omega)), zbit (by omega) (by omega), rd_ok (show l < 30 by omega) (by decide), hT.2.2 l hll, lt_eq, fb_xorI, nI_1, xsL]
    cases w.testBit l with
    | false => rw [bI_f, if_pos (by decide), if_neg (by decide)]
    | true =>
      rw [bI_t, if_neg (by decide), if_pos rfl]
      rfl
theorem parts48_X {M : zM} (hW : gW n E) (hN : NetX M n E) (hT : TX M n E) {a b set : Nat} (hs : set < 2 ^ 30) (hp : popc set ≤ 6) : ∃ r : Bool, fCuts_parts_48 FU (nI set) (nI (gBt n E a b)) (nI set) M = some (bI r, M) ∧ (r = true ↔ ∃ w, w &&& set = w ∧ wk n E a b w = true) := by
  have hpc : pcn 30 set ≤ 6 := by
    rw [pcn_ct]
    exact Nat.le_trans (fb_ct_mono _ (by decide)) hp
  have hpw : 2 ^ pcn 30 set ≤ 2 ^ 6 := Nat.pow_le_pow_right (by decide) hpc
  have hpos := Nat.two_pow_pos (pcn 30 set)
  have hfull := dq_full 30 set hs
  have := lpE (f := fun fu i (_ : Unit) M => fCuts_parts_48 fu (nI set) (nI (gBt n E a b)) (nI (dq 30 set (2 ^ pcn 30 set - 1 - i))) M) (n := 2 ^ pcn 30 set - 1)
    (I := fun i _ M' => M' = M ∧ ∀ x, 2 ^ pcn 30 set - 1 - i < x → x < 2 ^ pcn 30 set → wk n E a b (dq 30 set x) = false)
    (R := fun o => ∃ r : Bool, o = some (bI r, M) ∧ (r = true ↔ ∃ w, w &&& set = w ∧ wk n E a b w = true)) ?_ ?_ 0 FU () M (Nat.zero_le _) (fu_ok (by omega)) ⟨rfl, fun x h1 h2 => by omega⟩
  · rw [Nat.sub_zero, hfull] at this
    exact this
  · rintro fu - M' ⟨rfl, h1⟩
    refine ⟨false, ?_, fun z => (by cases z), ?_⟩
    · rw [Nat.sub_self, dq_zero, fCuts_parts_48, if_pos (by decide), zbl_0]
      rfl
    · rintro ⟨w, w1, w2⟩
      obtain ⟨x, x1, x2⟩ := dq_onto 30 set w hs w1
      rw [← x2] at w2
      by_cases h0 : x = 0
      · rw [h0, dq_zero] at w2
        unfold wk at w2
        rw [wkL_0] at w2
        cases w2
      · rw [h1 x (by omega) x1] at w2
        cases w2
  · rintro fu i - M' hi ⟨rfl, h1⟩
    obtain ⟨x, hx⟩ : ∃ x, 2 ^ pcn 30 set - 1 - i = x + 1 := ⟨2 ^ pcn 30 set - 1 - i - 1, by omega⟩
    have hx2 : 2 ^ pcn 30 set - 1 - (i + 1) = x := by omega
    rw [hx] at h1
    show _ ∨ ∃ s2 M2, fCuts_parts_48 (fu + 1) (nI set) (nI (gBt n E a b)) (nI (dq 30 set (2 ^ pcn 30 set - 1 - i))) M' = _ ∧ _
    rw [hx, hx2]
    obtain ⟨q1, q2⟩ := dq_next 30 set x hs (by omega)
    have hlt := dq_lt 30 set (x + 1) hs
    have hbl := gBt_lt hW a b
    have hpb : popc (dq 30 set (x + 1) &&& gBt n E a b) ≤ 32 := popc_lt
    have es : (nI (dq 30 set (x + 1)) - 1) &&& nI set = nI (dq 30 set x) := by
      rw [show nI (dq 30 set (x + 1)) - 1 = nI (dq 30 set (x + 1) - 1) from pk_sub (b := 1) q1, fa_and, q2]
    have e48 : fCuts_parts_48 (fu + 1) (nI set) (nI (gBt n E a b)) (nI (dq 30 set (x + 1))) M' = if wk n E a b (dq 30 set (x + 1)) = true then some (1, M') else fCuts_parts_48 fu (nI set) (nI (gBt n E a b)) (nI (dq 30 set x)) M' := by
      rw [fCuts_parts_48, if_neg (nI_nle (by omega) (by omega)), fa_and, bitCount_ok (Nat.lt_trans (and_lt hlt) (by decide)), cl_some, show (2 : Int32) = nI 2 from rfl, zmod_ok (by omega) (by decide) (by decide), es, lt_eq, give_X hW hN hT hlt, cl_some, lt_eq, zbl_1]
      unfold wk wkL
      by_cases ho : popc (dq 30 set (x + 1) &&& gBt n E a b) % 2 = 1
      · rw [ho, if_neg (by decide), decide_eq_true (show 1 = 1 from rfl), Bool.and_true]
        cases decide (xsL (gNm n E) (dq 30 set (x + 1)) E.length = 0) with
        | false => rw [bI_f, if_pos rfl, if_neg (by decide)]
        | true => rw [bI_t, if_neg (by decide), if_pos rfl]
      · have h0 : popc (dq 30 set (x + 1) &&& gBt n E a b) % 2 = 0 := by omega
        rw [h0, if_pos (by decide), decide_eq_false (show ¬ 0 = 1 by decide), Bool.and_false, if_neg (by decide)]
    rw [e48]
    cases hwk : wk n E a b (dq 30 set (x + 1)) with
    | true =>
      left
      refine ⟨true, ?_, fun _ => ⟨dq 30 set (x + 1), dq_sub 30 set _, hwk⟩, fun _ => rfl⟩
      rw [if_pos rfl]
      rfl
    | false =>
      right
      rw [if_neg (by decide)]
      refine ⟨(), M', rfl, rfl, fun y y1 y2 => ?_⟩
      by_cases hy : y = x + 1
      · rw [hy]
        exact hwk
      · exact h1 y (by omega) y2
theorem parts_X {M : zM} (hW : gW n E) (hN : NetX M n E) (hC : CX M n E) {a b set : Nat} (ha : a < n) (hb : b < n) (hs : set < 2 ^ 30) (hp : popc set ≤ 6) : ∃ (r : Bool) (M2 : zM), fCuts_parts (nI a) (nI b) (nI set) M = some (bI r, M2) ∧ (r = true ↔ PT n E a b set) ∧ CX M2 n E ∧ fq zL M M2 := by
  have hn := hW.1.2
  obtain ⟨M1, a1, a2, a3, a4, a5⟩ := fresh_q hW hN hC
  have f1 : fq zL M M1 := fq_mono a5 (fun c k h => by omega)
  have ra := a2.1.2.2.2.2.2 a (gTree_mem ha)
  have rb := a2.1.2.2.2.2.2 b (gTree_mem hb)
  rw [fCuts_parts, a1, cl_some, if_pos rfl, rd_ok (show a < 12 by omega) (by decide), rd_ok (show b < 12 by omega) (by decide), ra.2.1, rb.2.1, rd_ok (show a < 12 by omega) (by decide), rd_ok (show b < 12 by omega) (by decide), ra.2.2, rb.2.2, fb_xorI, lt_eq, zbl_1]
  simp only [root_eq hW ha hb]
  unfold PT
  by_cases hr : tR (gTree n E) a = tR (gTree n E) b
  · rw [if_pos hr]
    obtain ⟨r, r1, r2⟩ := parts48_X hW a4 a2 (a := a) (b := b) hs hp
    refine ⟨r, M1, r1, ?_, a3, f1⟩
    rw [r2]
    exact ⟨fun z => Or.inr z, fun z => z.resolve_left (fun y => y hr)⟩
  · rw [if_neg hr]
    exact ⟨true, M1, rfl, ⟨fun _ => Or.inl hr, fun _ => rfl⟩, a3, f1⟩
/-! the reference -/
def pos (s : Nat) : Nat → List Nat
  | 0 => []
  | l + 1 => if s.testBit l = true then pos s l ++ [l] else pos s l
theorem pos_len (s : Nat) : ∀ l, (pos s l).length = fb_ct (fun i => s.testBit i) l
  | 0 => rfl
  | l + 1 => by
    rw [pos, fb_ct_succ]
    by_cases h : s.testBit l = true
    · rw [if_pos h, if_pos h, List.length_append, pos_len s l]
      rfl
    · rw [if_neg h, if_neg h, pos_len s l]
      rfl
theorem pos_lt (s : Nat) : ∀ l, ∀ p ∈ pos s l, p < l
  | 0, p, h => by cases h
  | l + 1, p, h => by
    rw [pos] at h
    split at h
    · rcases mem_app1.mp h with z | z
      · have := pos_lt s l p z
        omega
      · omega
    · have := pos_lt s l p h
      omega
/-- sums over the first k places -/
def ySm (L : Nat → Nat) (ps : List Nat) (x : Nat) : Nat → Nat
  | 0 => 0
  | k + 1 => if x.testBit k = true then ySm L ps x k ^^^ L (ps.getD k 0) else ySm L ps x k
def yOd (bt : Nat) (ps : List Nat) (x : Nat) : Nat → Nat
  | 0 => 0
  | k + 1 => if x.testBit k = true then yOd bt ps x k + (bt.testBit (ps.getD k 0)).toNat else yOd bt ps x k
theorem pos_pre (s : Nat) : ∀ (d l : Nat), ∃ t, pos s (l + d) = pos s l ++ t
  | 0, l => ⟨[], by simp⟩
  | d + 1, l => by
    obtain ⟨t, ht⟩ := pos_pre s d l
    rw [show l + (d + 1) = l + d + 1 by omega, pos]
    split
    · exact ⟨t ++ [l + d], by rw [ht, List.append_assoc]⟩
    · exact ⟨t, ht⟩
theorem pos_at {s len l : Nat} (hl : l < len) (h : s.testBit l = true) : (pos s len).getD (fb_ct (fun i => s.testBit i) l) 0 = l := by
  obtain ⟨t, ht⟩ := pos_pre s (len - (l + 1)) (l + 1)
  rw [show l + 1 + (len - (l + 1)) = len by omega] at ht
  rw [ht, pos, if_pos h, List.getD_eq_getElem?_getD, ← pos_len, List.append_assoc, List.getElem?_append_right (Nat.le_refl _), Nat.sub_self]
  rfl
theorem ySm_eq {L : Nat → Nat} {s len x : Nat} (hlen : len ≤ 30) : ∀ l, l ≤ len → ySm L (pos s len) x (fb_ct (fun i => s.testBit i) l) = xsL L (dq 30 s x) l
  | 0, _ => rfl
  | l + 1, hl => by
    have ih := ySm_eq (L := L) (s := s) (x := x) hlen l (by omega)
    rw [fb_ct_succ, xsL, dq_bit 30 s x l (by omega)]
    by_cases h : s.testBit l = true
    · rw [if_pos h, ySm, ih, pos_at (by omega) h, h, Bool.true_and]
    · rw [if_neg h, Bool.eq_false_iff.mpr h, Bool.false_and, if_neg (by decide)]
      exact ih
theorem yOd_eq {bt s len x : Nat} (hlen : len ≤ 30) : ∀ l, l ≤ len → yOd bt (pos s len) x (fb_ct (fun i => s.testBit i) l) = fb_ct (fun i => (dq 30 s x &&& bt).testBit i) l
  | 0, _ => rfl
  | l + 1, hl => by
    have ih := yOd_eq (bt := bt) (s := s) (x := x) hlen l (by omega)
    rw [fb_ct_succ, fb_ct_succ, Nat.testBit_and, dq_bit 30 s x l (by omega)]
    by_cases h : s.testBit l = true
    · rw [if_pos h, yOd, ih, pos_at (by omega) h, h, Bool.true_and]
      cases x.testBit (fb_ct (fun i => s.testBit i) l) with
      | false => simp
      | true =>
        rw [if_pos rfl, Bool.true_and]
        cases bt.testBit l <;> rfl
    · rw [if_neg h, Bool.eq_false_iff.mpr h, Bool.false_and, Bool.false_and, if_neg (by decide)]
      exact ih
theorem ct_stop {f : Nat → Bool} {k m : Nat} (hk : k ≤ m) (h : ∀ j, k ≤ j → j < m → f j = false) : fb_ct f m = fb_ct f k := by
  obtain ⟨d, rfl⟩ : ∃ d, m = k + d := ⟨m - k, by omega⟩
  rw [fb_ct_split]
  have : fb_ct (fun j => f (k + j)) d = 0 := fb_ct_zero.mpr (fun j hj => h (k + j) (by omega) (by omega))
  omega
theorem wk_Y (hW : gW n E) {a b s x : Nat} (hs : s < 2 ^ E.length) : wk n E a b (dq 30 s x) = (decide (ySm (gNm n E) (pos s E.length) x (fb_ct (fun i => s.testBit i) E.length) = 0) && decide (yOd (gBt n E a b) (pos s E.length) x (fb_ct (fun i => s.testBit i) E.length) % 2 = 1)) := by
  have hl := hW.2.1
  rw [ySm_eq hl E.length (Nat.le_refl _), yOd_eq hl E.length (Nat.le_refl _)]
  unfold wk wkL popc
  have : fb_ct (fun i => (dq 30 s x &&& gBt n E a b).testBit i) 32 = fb_ct (fun i => (dq 30 s x &&& gBt n E a b).testBit i) E.length := ct_stop (by omega) (fun j h1 h2 => by
    rw [Nat.testBit_and, ← dq_sub 30 s x, Nat.testBit_and, Nat.testBit_lt_two_pow (Nat.lt_of_lt_of_le hs (Nat.pow_le_pow_right (by decide) h1))]
    simp)
  rw [this]
theorem ySm_lt (hW : gW n E) {ps : List Nat} {x : Nat} (hps : ∀ k, k < ps.length → ps.getD k 0 < E.length) : ∀ k, k ≤ ps.length → ySm (gNm n E) ps x k < 2 ^ 30
  | 0, _ => by show 0 < 2 ^ 30; decide
  | k + 1, hk => by
    have := ySm_lt hW (x := x) hps k (by omega)
    rw [ySm]
    split
    · exact xor_lt this (gNm_lt hW _ (hps k (by omega)))
    · exact this
theorem yOd_le {bt : Nat} {ps : List Nat} {x : Nat} : ∀ k, yOd bt ps x k ≤ k
  | 0 => Nat.le_refl _
  | k + 1 => by
    have := yOd_le (bt := bt) (ps := ps) (x := x) k
    rw [yOd]
    split
    · have h2 : ∀ c : Bool, c.toNat ≤ 1 := by decide
      have := h2 (bt.testBit (ps.getD k 0))
      omega
    · omega
theorem isParted_Y {M : zM} (hW : gW n E) (hN : NetY M n E) (hS : SY M n (gTree n E)) {a b s : Nat} (ha : a < n) (hb : b < n) (hs : s < 2 ^ E.length) (hp : fb_ct (fun i => s.testBit i) E.length ≤ 6) : ∃ (r : Bool) (M2 : zM), fMd_isParted (nI a) (nI b) (nI s) M = some (bI r, M2) ∧ (r = true ↔ PT n E a b s) ∧ fq (fun c _ => c = 16) M M2 := by
  have hn := hW.1.2
  have hl := hW.2.1
  have hs30 : s < 2 ^ 30 := Nat.lt_of_lt_of_le hs (Nat.pow_le_pow_right (by decide) hl)
  have ra := hS.1 a ha
  have rb := hS.1 b hb
  rw [if_pos (gTree_mem ha)] at ra
  rw [if_pos (gTree_mem hb)] at rb
  rw [fMd_isParted, rd_ok (show a < 12 by omega) (by decide), rd_ok (show b < 12 by omega) (by decide), ra, rb, zbl_1]
  simp only [root_eq hW ha hb]
  unfold PT
  by_cases hr : tR (gTree n E) a = tR (gTree n E) b
  · rw [if_pos hr]
    have hT := gTree_W hW
    have hall : ∀ q, q < n → q ∈ tO (gTree n E) := fun q hq => gTree_mem hq
    have hcle : ∀ l, l ≤ E.length → fb_ct (fun i => s.testBit i) l ≤ 6 := fun l hl => Nat.le_trans (fb_ct_mono _ hl) hp
    have lay : ∃ M2, fMd_isParted_23 FU (nI a) (nI b) (nI s) 0 0 M = fMd_isParted_76 FU (nI (pos s E.length).length) (nI (gBt n E a b)) 1 M2 ∧ prX M2 16 (pos s E.length) ∧ fq (fun c _ => c = 16) M M2 := by
      refine lpE (f := fun fu l (_ : Unit) M => fMd_isParted_23 fu (nI a) (nI b) (nI s) (nI (pos s l).length) (nI l) M) (n := E.length)
        (I := fun l _ M' => prX M' 16 (pos s l) ∧ fq (fun c _ => c = 16) M M')
        (R := fun o => ∃ M2, o = fMd_isParted_76 FU (nI (pos s E.length).length) (nI (gBt n E a b)) 1 M2 ∧ prX M2 16 (pos s E.length) ∧ fq (fun c _ => c = 16) M M2) ?_ ?_ 0 FU () M (by omega) (fu_ok (by omega)) ⟨fun i q hi => (by cases hi), fq_rf⟩
      · rintro fu - M' ⟨h1, h2⟩
        have hS' := SY.fq hS h2 (fun k => by omega)
        refine ⟨M', ?_, h1, h2⟩
        rw [fMd_isParted_23, h2 0 1 (by omega), hN.2.1, if_pos (nI_le (by omega) (by omega)), wayUp_ok hW hT (gTree_C n E) hS' (gTree_mem ha), cl_some, wayUp_ok hW hT (gTree_C n E) hS' (gTree_mem hb), cl_some, fb_xorI, lt_eq]
        rfl
      · rintro fu l - M' hll ⟨h1, h2⟩
        right
        rw [fMd_isParted_23, h2 0 1 (by omega), hN.2.1, if_neg (nI_ge hll (by omega)), zbit (by omega) (by omega), nI_1, nI_1]
        cases ht : s.testBit l with
        | false =>
          rw [bI_f, if_pos (by decide)]
          refine ⟨(), M', by rw [pos, ht]; rfl, by rw [pos, ht]; exact h1, h2⟩
        | true =>
          have h6 : (pos s l).length < 6 := by
            have := hcle (l + 1) (by omega)
            rw [fb_ct_succ, if_pos ht] at this
            rw [pos_len]
            omega
          rw [bI_t, if_neg (by decide), wr_ok h6 (by decide)]
          refine ⟨(), zs M' 16 (pos s l).length (nI l), ?_, fun i q hi => ?_, fq_zs h2 rfl⟩
          · rw [pos, if_pos ht, List.length_append]
            rfl
          · rw [pos, if_pos ht] at hi
            rcases app_get hi with ⟨g1, g2⟩ | ⟨g1, g2⟩
            · rw [zs_nk (by omega)]
              exact h1 i q g2
            · rw [g1, g2, zs_eq]
    obtain ⟨M2, l1, l2, l3⟩ := lay
    have hN2 := fq_netY l3 hN (fun k => by omega)
    have hS2 := SY.fq hS l3 (fun k => by omega)
    have hpl := pos_len s E.length
    have hpk : ∀ k, k < (pos s E.length).length → (pos s E.length)[k]? = some ((pos s E.length).getD k 0) ∧ (pos s E.length).getD k 0 < E.length := fun k hk => by
      have := getD_of hk
      exact ⟨this, pos_lt s E.length _ (List.mem_of_getElem? this)⟩
    have h6 : (pos s E.length).length ≤ 6 := by rw [hpl]; exact hp
    have hpw : 2 ^ (pos s E.length).length ≤ 2 ^ 6 := Nat.pow_le_pow_right (by decide) h6
    have hpos := Nat.two_pow_pos (pos s E.length).length
    have hbl := gBt_lt hW a b
    have hpc : pcn 30 s = (pos s E.length).length := by
      rw [pcn_ct, hpl]
      exact ct_stop hl (fun j h1 h2 => Nat.testBit_lt_two_pow (Nat.lt_of_lt_of_le hs (Nat.pow_le_pow_right (by decide) h1)))
    rw [l1]
    have main : ∃ r : Bool, fMd_isParted_76 FU (nI (pos s E.length).length) (nI (gBt n E a b)) 1 M2 = some (bI r, M2) ∧ (r = true ↔ ∃ w, w &&& s = w ∧ wk n E a b w = true) := by
      refine lpE (f := fun fu x (_ : Unit) M => fMd_isParted_76 fu (nI (pos s E.length).length) (nI (gBt n E a b)) (nI x) M) (n := 2 ^ (pos s E.length).length)
        (I := fun x _ M' => M' = M2 ∧ ∀ y, y < x → wk n E a b (dq 30 s y) = false)
        (R := fun o => ∃ r : Bool, o = some (bI r, M2) ∧ (r = true ↔ ∃ w, w &&& s = w ∧ wk n E a b w = true)) ?_ ?_ 1 FU () M2 (by omega) (fu_ok (by omega)) ⟨rfl, fun y hy => by
          have : y = 0 := by omega
          rw [this, dq_zero]
          exact wkL_0⟩
      · rintro fu - M' ⟨rfl, h1⟩
        refine ⟨false, ?_, fun z => (by cases z), ?_⟩
        · rw [fMd_isParted_76, zshl_pow (by omega), if_pos (nI_le (Nat.le_refl _) (by omega)), zbl_0]
          rfl
        · rintro ⟨w, w1, w2⟩
          obtain ⟨x, x1, x2⟩ := dq_onto 30 s w hs30 w1
          rw [hpc] at x1
          rw [← x2, h1 x x1] at w2
          cases w2
      · rintro fu x - M' hx ⟨rfl, h1⟩
        have e94 : fMd_isParted_94 (fMd_isParted_76 fu) FU (nI (pos s E.length).length) (nI (gBt n E a b)) (nI x) 0 0 0 M' = if wk n E a b (dq 30 s x) = true then some (1, M') else fMd_isParted_76 fu (nI (pos s E.length).length) (nI (gBt n E a b)) (nI (x + 1)) M' := by
          refine lpE (f := fun fu2 k (_ : Unit) M => fMd_isParted_94 (fMd_isParted_76 fu) fu2 (nI (pos s E.length).length) (nI (gBt n E a b)) (nI x) (nI (ySm (gNm n E) (pos s E.length) x k)) (nI (yOd (gBt n E a b) (pos s E.length) x k)) (nI k) M) (n := (pos s E.length).length)
            (I := fun k _ M2 => M2 = M') (R := fun o => o = if wk n E a b (dq 30 s x) = true then some (1, M') else fMd_isParted_76 fu (nI (pos s E.length).length) (nI (gBt n E a b)) (nI (x + 1)) M') ?_ ?_ 0 FU () M' (Nat.zero_le _) (fu_ok (by omega)) rfl
          · rintro fu2 - M3 rfl
            have hy1 := ySm_lt hW (x := x) (fun k hk => (hpk k hk).2) _ (Nat.le_refl _)
            have hy2 := yOd_le (bt := gBt n E a b) (ps := pos s E.length) (x := x) (pos s E.length).length
            rw [fMd_isParted_94, if_pos (nI_le (Nat.le_refl _) (by omega)), nI_1, zbl_1, wk_Y hW hs, ← hpl, show (2 : Int32) = nI 2 from rfl, zmod_ok (by omega) (by decide) (by decide)]
            by_cases h0 : ySm (gNm n E) (pos s E.length) x (pos s E.length).length = 0
            · rw [if_neg (by rw [h0]; exact not_not_intro rfl), decide_eq_true h0, Bool.true_and]
              by_cases ho : yOd (gBt n E a b) (pos s E.length) x (pos s E.length).length % 2 = 1
              · rw [ho, if_neg (by decide), if_pos (by decide)]
              · have ho2 : yOd (gBt n E a b) (pos s E.length) x (pos s E.length).length % 2 = 0 := by omega
                rw [ho2, if_pos (by decide), if_neg (by decide)]
            · rw [if_pos (nI_ne0 (by omega) (by omega)), decide_eq_false h0, Bool.false_and, if_neg (by decide)]
          · rintro fu2 k - M3 hk rfl
            right
            refine ⟨(), M3, ?_, rfl⟩
            obtain ⟨p1, p2⟩ := hpk k hk
            rw [fMd_isParted_94, if_neg (nI_ge hk (by omega)), zbit (by omega) (by omega), rd_ok (show k < 6 by omega) (by decide), l2 k _ p1, lineName_ok hW hN2 hT hall (gTree_C n E) hS2 (by omega), cl_some, lt_eq, rd_ok (show k < 6 by omega) (by decide), l2 k _ p1, zbit (by omega) (by omega), lt_eq, fb_xorI, bI_nI ((gBt n E a b).testBit _), nI_add, nI_1, ySm, yOd]
            cases x.testBit k with
            | false => rw [bI_f, if_pos (by decide), if_neg (by decide), if_neg (by decide)]
            | true =>
              rw [bI_t, if_neg (by decide), if_pos rfl, if_pos rfl]
              rfl
        rw [fMd_isParted_76, zshl_pow (by omega), if_neg (nI_ge hx (by omega)), e94]
        cases hwk : wk n E a b (dq 30 s x) with
        | true =>
          left
          exact ⟨true, by rw [if_pos rfl]; rfl, fun _ => ⟨_, dq_sub 30 s x, hwk⟩, fun _ => rfl⟩
        | false =>
          right
          rw [if_neg (by decide)]
          refine ⟨(), M', rfl, rfl, fun y hy => ?_⟩
          by_cases hyx : y = x
          · rw [hyx]
            exact hwk
          · exact h1 y (by omega)
    obtain ⟨r, r1, r2⟩ := main
    refine ⟨r, M2, r1, ?_, l3⟩
    rw [r2]
    exact ⟨fun z => Or.inr z, fun z => z.resolve_left (fun y => y hr)⟩
  · rw [if_neg hr]
    exact ⟨true, M, rfl, ⟨fun _ => Or.inl hr, fun _ => rfl⟩, fq_rf⟩
end ptS
