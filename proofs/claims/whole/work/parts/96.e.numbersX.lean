/-! PURE: reading, the numbers of a question in the class -/
section nxS
variable {tx : List Nat} {p q b n mx d : Nat} {E : List (Nat × Nat)}
theorem lmk_push {l : List Nat} {v : Nat} : lmk (l ++ [v]) = lmk l ||| 2 ^ v := by
  unfold lmk
  rw [List.foldl_append]
  rfl
theorem drop_push {acc : List Nat} {v : Nat} : (2 ≤ acc.length → (acc ++ [v]).drop 2 = acc.drop 2 ++ [v]) ∧ (acc.length < 2 → (acc ++ [v]).drop 2 = [] ∧ acc.drop 2 = []) := by
  refine ⟨fun h => List.drop_append_of_le_length h, fun h => ⟨List.drop_eq_nil_of_le ?_, List.drop_eq_nil_of_le (by omega)⟩⟩
  rw [List.length_append]
  simp
  omega
theorem push_get {acc : List Nat} {v : Nat} {i w : Nat} (h : (acc ++ [v])[i]? = some w) : (i < acc.length ∧ acc[i]? = some w) ∨ (i = acc.length ∧ v = w) := by
  by_cases hl : i < acc.length
  · rw [List.getElem?_append_left hl] at h
    exact Or.inl ⟨hl, h⟩
  · rw [List.getElem?_append_right (by omega)] at h
    have h1 : i - acc.length = 0 := by
      have := (List.getElem?_eq_some_iff.mp h).1
      simp at this
      omega
    rw [h1] at h
    exact Or.inr ⟨by omega, by simpa using h⟩
theorem keep_X {M : zM} {acc : List Nat} {v : Nat} (h : nX M d acc) (hd : d < 12) (hv : v < 31) (hl : acc.length < 100) : ∃ M2, fScript_keep (nI acc.length) (nI v) M = some ((), M2) ∧ nX M2 d (acc ++ [v]) ∧ fq (fun c k => 59 ≤ c ∧ c ≤ 61 ∧ k = d) M M2 := by
  obtain ⟨h1, h2, h3, h4⟩ := h
  rw [fScript_keep, h1]
  by_cases l0 : acc.length = 0
  · rw [l0, if_neg (by decide), wr_ok hd (by decide)]
    have hf : fq (fun c k => 59 ≤ c ∧ c ≤ 61 ∧ k = d) M (zs M 59 d (nI v)) := fq_zs fq_rf (by omega)
    refine ⟨_, rfl, ⟨(hf _ _ (by omega)).trans h1, fun w hw => ?_, fun w hw => ?_, ?_⟩, hf⟩
    · rcases push_get hw with ⟨z, -⟩ | ⟨-, z⟩
      · omega
      · rw [← z]
        exact zs_eq
    · rcases push_get hw with ⟨z, -⟩ | ⟨z, -⟩ <;> omega
    · rw [zs_ne (by omega), h4, (drop_push.2 (by omega)).1, (drop_push (v := v).2 (by omega)).2]
  · rw [if_pos (nI_ne0 (by omega) (by omega))]
    by_cases l1 : acc.length = 1
    · rw [l1, if_neg (by decide), wr_ok hd (by decide)]
      have hf : fq (fun c k => 59 ≤ c ∧ c ≤ 61 ∧ k = d) M (zs M 60 d (nI v)) := fq_zs fq_rf (by omega)
      refine ⟨_, rfl, ⟨(hf _ _ (by omega)).trans h1, fun w hw => ?_, fun w hw => ?_, ?_⟩, hf⟩
      · rcases push_get hw with ⟨-, z⟩ | ⟨z, -⟩
        · rw [zs_ne (by omega)]
          exact h2 w z
        · omega
      · rcases push_get hw with ⟨z, -⟩ | ⟨-, z⟩
        · omega
        · rw [← z]
          exact zs_eq
      · rw [zs_ne (by omega), h4, (drop_push.2 (by omega)).1, (drop_push (v := v).2 (by omega)).2]
    · rw [if_pos (show ¬ nI acc.length = 1 from fun z => l1 ((nI_eq (b := 1) (by omega) (by omega)).mp z)), rd_ok hd (by decide), wr_ok hd (by decide), h4, zshl_pow hv, fa_or]
      have hf : fq (fun c k => 59 ≤ c ∧ c ≤ 61 ∧ k = d) M (zs M 61 d (nI (lmk (acc.drop 2) ||| 2 ^ v))) := fq_zs fq_rf (by omega)
      refine ⟨_, rfl, ⟨(hf _ _ (by omega)).trans h1, fun w hw => ?_, fun w hw => ?_, ?_⟩, hf⟩
      · rcases push_get hw with ⟨-, z⟩ | ⟨z, -⟩
        · rw [zs_ne (by omega)]
          exact h2 w z
        · omega
      · rcases push_get hw with ⟨-, z⟩ | ⟨z, -⟩
        · rw [zs_ne (by omega)]
          exact h3 w z
        · omega
      · rw [drop_push.1 (by omega), lmk_push]
        exact zs_eq
def oX (M2 : zM) (tx : List Nat) (d : Nat) : (Nat × Nat) ⊕ (List Nat × Nat) → Prop
  | .inl (k, pl) => M2 56 4 = nI k ∧ M2 56 3 = nI pl
  | .inr (acc, s) => tX M2 tx (s + 1) ∧ M2 56 4 = 0 ∧ M2 56 3 = -1 ∧ nX M2 d acc
theorem stop_X {M : zM} {fu k : Nat} {v w : Int32} (hk : 1 ≤ k) (hk2 : k ≤ 4) (h : M 56 4 = nI k) : fScript_readNumbers_2 (fu + 1) v w M = some ((), M) := by
  rw [fScript_readNumbers_2, h, if_pos (show ¬ nI k = 0 from nI_ne0 (by omega) (by omega))]
  split <;> rfl
theorem fail_X {M : zM} {k s : Nat} : fScript_fail (nI k) (nI s) M = some ((), zs (zs M 56 4 (nI k)) 56 3 (nI s)) := rfl
theorem failed_X {M : zM} {k s : Nat} : (zs (zs M 56 4 (nI k)) 56 3 (nI s)) 56 4 = nI k ∧ (zs (zs M 56 4 (nI k)) 56 3 (nI s)) 56 3 = nI s ∧ fq (zNu d) M (zs (zs M 56 4 (nI k)) 56 3 (nI s)) :=
  ⟨by rw [zs_ne (by omega)]; exact zs_eq, zs_eq, fq_zs (fq_zs fq_rf (by omega)) (by omega)⟩
theorem numbers_X (ht : tOk tx) (hW : gW n E) (hd : d < 12) (hmx : mx ≤ 8) : ∀ (f fu : Nat) (acc : List Nat) (p : Nat) (M : zM), mx < acc.length + f → f < fu → p ≤ tx.length → acc.length ≤ mx → tX M tx p → NetX M n E → M 56 4 = 0 → M 56 3 = -1 → nX M d acc →
    ∃ M2, fScript_readNumbers_2 fu (nI mx) (nI acc.length) M = some ((), M2) ∧ fq (zNu d) M M2 ∧ (∃ r, r ≤ tx.length ∧ M2 56 5 = nI r) ∧ oX M2 tx d (pN tx n E.length mx f acc p) := by
  have ht1 := ht.1
  have hE := hW.2.1
  have hn := hW.1.2
  intro f
  induction f with
  | zero => intro fu acc p M h1 h2 h3 h4; omega
  | succ f ih =>
    intro fu acc p M h1 h2 h3 h4 h5 h6 h7 h8 h9
    obtain ⟨fu, rfl⟩ : ∃ fu', fu = fu' + 1 + 1 := ⟨fu - 2, by omega⟩
    obtain ⟨M1, a1, a2, a3⟩ := skip_X ht h3 h5
    have hs := rnB_le (f := blk) h3
    have hf1 : fq (zNu d) M M1 := fun c k hc => a3 c k (by omega)
    have n1 : NetX M1 n E := fq_net a3 h6 (fun k => by omega)
    have x1 : nX M1 d acc := ⟨(a3 _ _ (by omega)).trans h9.1, fun v hv => (a3 _ _ (by omega)).trans (h9.2.1 v hv), fun v hv => (a3 _ _ (by omega)).trans (h9.2.2.1 v hv), (a3 _ _ (by omega)).trans h9.2.2.2⟩
    have z4 : M1 56 4 = 0 := (a3 _ _ (by omega)).trans h7
    have z3 : M1 56 3 = -1 := (a3 _ _ (by omega)).trans h8
    rw [fScript_readNumbers_2, if_neg (nI_nlt h4 (by omega)), h7, if_neg (fun z => z rfl), a1, cl_some, a2.1, a2.2.2, pN]
    generalize rnB blk tx p = s at a2 hs ⊢
    by_cases c1 : 2 ≤ acc.length ∧ tx[s]? = some 59
    · have hl := (List.getElem?_eq_some_iff.mp c1.2).1
      rw [if_pos c1, if_neg (show ¬ nI acc.length < 2 from nI_nlt (b := 2) c1.1 (by omega)), if_neg (nI_ge hl (by omega)), rd_ok (show s < 200 by omega) (by decide), a2.2.1 s 59 c1.2, if_neg (by decide), wf_eq, nI_1]
      have hf : fq (fun c k => c = 56 ∧ k = 5) M1 (zs M1 56 5 (nI (s + 1))) := fq_zs fq_rf ⟨rfl, rfl⟩
      refine ⟨_, rfl, fq_tr hf1 (fun c k hc => hf c k (by omega)), ⟨s + 1, hl, zs_eq⟩, tX_to a2 hf zs_eq, (hf _ _ (by omega)).trans z4, (hf _ _ (by omega)).trans z3, (hf _ _ (by omega)).trans x1.1, fun v hv => (hf _ _ (by omega)).trans (x1.2.1 v hv), fun v hv => (hf _ _ (by omega)).trans (x1.2.2.1 v hv), (hf _ _ (by omega)).trans x1.2.2.2⟩
    · rw [if_neg c1]
      have e59 : ∀ (A B : Option (Unit × zM)), (if nI acc.length < 2 then A else if nI tx.length ≤ nI s then A else rd M1 57 200 (nI s) fun x2 => if ¬ x2 = 59 then A else B) = A := by
        intro A B
        by_cases l2 : acc.length < 2
        · rw [if_pos (show nI acc.length < 2 from nI_lt (b := 2) l2 (by omega))]
        · rw [if_neg (show ¬ nI acc.length < 2 from nI_nlt (b := 2) (by omega) (by omega))]
          by_cases l3 : tx.length ≤ s
          · rw [if_pos (nI_le l3 (by omega))]
          · obtain ⟨b, hb, hb2⟩ := tOk_get ht (show s < tx.length by omega)
            rw [if_neg (nI_ge (by omega) (by omega)), rd_ok (show s < 200 by omega) (by decide), a2.2.1 s b hb, if_pos]
            intro z
            have := (b_eqX (c := 59) hb2 (by omega)).mp z
            exact c1 ⟨by omega, by rw [hb, this]⟩
      rw [e59, fScript_readNumbers_59, a2.2.2, figO_X ht a2 hs, cl_some]
      by_cases c2 : mx ≤ acc.length ∨ figO tx s = false
      · rw [if_pos c2]
        have hX : fScript_readNumbers_83 (fScript_readNumbers_2 (fu + 1)) (nI mx) (nI acc.length) M1 = some ((), zs (zs M1 56 4 (nI 1)) 56 3 (nI s)) := by
          rw [fScript_readNumbers_83, a2.2.2, show fScript_fail 1 (nI s) M1 = _ from fail_X (k := 1), cl_some]
          exact stop_X (k := 1) (by omega) (by omega) (failed_X (d := d)).1
        refine ⟨_, ?_, fq_tr hf1 failed_X.2.2, ⟨s, hs, by rw [zs_ne (by omega), zs_ne (by omega)]; exact a2.2.2⟩, (failed_X (d := d)).1, (failed_X (d := d)).2.1⟩
        by_cases l3 : mx ≤ acc.length
        · rw [if_pos (nI_le l3 (by omega))]
          exact hX
        · rw [if_neg (nI_ge (by omega) (by omega)), show figO tx s = false from c2.resolve_left l3, bI_f, if_pos rfl]
          exact hX
      · rw [if_neg c2]
        have l3 : acc.length < mx := by omega
        have l4 : figO tx s = true := by
          cases h : figO tx s
          · exact absurd (Or.inr h) c2
          · rfl
        rw [if_neg (nI_ge l3 (by omega)), l4, bI_t, if_neg (by decide), fScript_readNumber, lt_eq, a2.2.2]
        obtain ⟨M2, b1, b2, b3⟩ := run_X (i := nI acc.length) (q := s) ht FU s M1 (by have : FU = 5000 := rfl; omega) (Nat.le_refl _) hs a2
        have v0 : nI (vd tx s (if s - s ≤ 2 then s - s else 2)) = 0 := by
          rw [Nat.sub_self]
          rfl
        rw [v0] at b1
        have he := rnB_le (f := fig) hs
        have hse := rnB_ge (f := fig) (tx := tx) (p := s)
        have hf2 : fq (zNu d) M M2 := fq_tr hf1 (fun c k hc => b3 c k (by omega))
        have n2 : NetX M2 n E := fq_net b3 n1 (fun k => by omega)
        have x2 : nX M2 d acc := ⟨(b3 _ _ (by omega)).trans x1.1, fun v hv => (b3 _ _ (by omega)).trans (x1.2.1 v hv), fun v hv => (b3 _ _ (by omega)).trans (x1.2.2.1 v hv), (b3 _ _ (by omega)).trans x1.2.2.2⟩
        have y4 : M2 56 4 = 0 := (b3 _ _ (by omega)).trans z4
        have y3 : M2 56 3 = -1 := (b3 _ _ (by omega)).trans z3
        rw [b1, fScript_readNumber_74, b2.2.2, pk_sub hse]
        generalize rnB fig tx s = e at b1 b2 he hse ⊢
        by_cases c3 : 2 < e - s
        · rw [if_pos c3, if_neg (show ¬ nI (e - s) ≤ 2 from nI_ge (a := 2) c3 (by omega)), show fScript_fail 2 (nI s) M2 = _ from fail_X (k := 2), cl_some, cl_some]
          exact ⟨_, stop_X (k := 2) (by omega) (by omega) (failed_X (d := d)).1, fq_tr hf2 failed_X.2.2, ⟨e, he, by rw [zs_ne (by omega), zs_ne (by omega)]; exact b2.2.2⟩, (failed_X (d := d)).1, (failed_X (d := d)).2.1⟩
        · rw [if_neg c3, if_pos (show nI (e - s) ≤ 2 from nI_le (b := 2) (by omega) (by omega)), if_pos (show e - s ≤ 2 by omega)]
          have hv := vd_99 (tx := tx) (q := s) (show e - s ≤ 2 by omega)
          generalize vd tx s (e - s) = v at hv ⊢
          have hX : (if (2 : Int32) ≤ nI acc.length then cl (fNet_hasLine (nI v) M2) fun r2 M1 => if ¬ r2 = 0 then fScript_readNumber_132 (nI acc.length) (nI v) M1 else fScript_readNumber_123 (nI s) M1 else cl (fNet_hasPost (nI v) M2) fun r4 M3 => if ¬ r4 = 0 then fScript_readNumber_132 (nI acc.length) (nI v) M3 else fScript_readNumber_123 (nI s) M3) = if v < (if 2 ≤ acc.length then E.length else n) then fScript_readNumber_132 (nI acc.length) (nI v) M2 else fScript_readNumber_123 (nI s) M2 := by
            by_cases l2 : 2 ≤ acc.length
            · rw [if_pos (show (2 : Int32) ≤ nI acc.length from nI_le (a := 2) l2 (by omega)), hasLine_ok n2 hW, cl_some, zin_nI_iff (by omega), if_pos l2]
              by_cases l5 : v < E.length
              · rw [decide_eq_true l5, if_pos l5, bI_t, if_pos (by decide)]
              · rw [decide_eq_false l5, if_neg l5, bI_f, if_neg (by decide)]
            · rw [if_neg (show ¬ (2 : Int32) ≤ nI acc.length from nI_ge (b := 2) (by omega) (by omega)), hasPost_ok n2 hW, cl_some, zin_nI_iff (by omega), if_neg l2]
              by_cases l5 : v < n
              · rw [decide_eq_true l5, if_pos l5, bI_t, if_pos (by decide)]
              · rw [decide_eq_false l5, if_neg l5, bI_f, if_neg (by decide)]
          rw [hX]
          by_cases c4 : v < if 2 ≤ acc.length then E.length else n
          · rw [if_pos c4, if_pos c4]
            have hv31 : v < 31 := by
              by_cases l2 : 2 ≤ acc.length
              · rw [if_pos l2] at c4
                omega
              · rw [if_neg l2] at c4
                omega
            obtain ⟨M3, k1, k2, k3⟩ := keep_X x2 hd hv31 (by omega)
            rw [fScript_readNumber_132, k1, cl_some, cl_some, nI_1]
            have el : (acc ++ [v]).length = acc.length + 1 := by simp
            obtain ⟨M4, r1, r2, r3⟩ := ih (fu + 1) (acc ++ [v]) e M3 (by omega) (by omega) he (by omega) ⟨(k3 _ _ (by omega)).trans b2.1, fun i b hi => (k3 _ _ (by omega)).trans (b2.2.1 i b hi), (k3 _ _ (by omega)).trans b2.2.2⟩ (fq_net k3 n2 (fun k => by omega)) ((k3 _ _ (by omega)).trans y4) ((k3 _ _ (by omega)).trans y3) k2
            rw [el] at r1
            exact ⟨M4, r1, fq_tr (fq_tr hf2 (fun c k hc => k3 c k (by omega))) r2, r3⟩
          · rw [if_neg c4, if_neg c4, fScript_readNumber_123, show fScript_fail 3 (nI s) M2 = _ from fail_X (k := 3), cl_some, cl_some]
            exact ⟨_, stop_X (k := 3) (by omega) (by omega) (failed_X (d := d)).1, fq_tr hf2 failed_X.2.2, ⟨e, he, by rw [zs_ne (by omega), zs_ne (by omega)]; exact b2.2.2⟩, (failed_X (d := d)).1, (failed_X (d := d)).2.1⟩
end nxS
