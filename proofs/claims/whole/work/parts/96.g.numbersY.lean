/-! PURE: reading, the numbers of a question in the reference -/
section nzS
variable {tx : List Nat} {p q b n mx kd : Nat} {E : List (Nat × Nat)}
theorem rnB_idem {f : Nat → Bool} (hp : p ≤ tx.length) : rnB f tx (rnB f tx p) = rnB f tx p := by
  have h1 := rnB_le (f := f) hp
  by_cases h : tx.length ≤ rnB f tx p
  · exact rnB_end h
  · obtain ⟨b, hb⟩ : ∃ b, tx[rnB f tx p]? = some b := ⟨_, List.getElem?_eq_getElem (by omega)⟩
    exact rnB_no hb (rnB_stop hp hb)
theorem pN_skip {m : Nat} (hp : p ≤ tx.length) (f : Nat) (acc : List Nat) : pN tx n m mx f acc (rnB blk tx p) = pN tx n m mx f acc p := by
  cases f with
  | zero => rw [pN, pN, rnB_idem hp]
  | succ f => rw [pN, pN, rnB_idem hp]
def oYn (o : Option (Unit × zM)) (M2 : zM) (tx : List Nat) (kd : Nat) : (Nat × Nat) ⊕ (List Nat × Nat) → Prop
  | .inl (k, pl) => o = some ((), M2) ∧ M2 0 31 = nI k ∧ M2 0 32 = nI pl
  | .inr (acc, s) => o = fMd_readQuestion_144 (nI kd) (nI acc.length) 1 M2 ∧ tY M2 tx s ∧ M2 0 31 = 0 ∧ M2 0 32 = -1 ∧ nY M2 acc
theorem tY_fr {M M2 : zM} (h : tY M tx p) (hf : fq zNy M M2) (hq : M2 0 30 = nI q) : tY M2 tx q :=
  ⟨(hf _ _ (by omega)).trans h.1, fun i b hi => (hf _ _ (by omega)).trans (h.2.1 i b hi), hq⟩
theorem fault_118 (ht : tOk tx) {M : zM} {k : Nat} {v w : Int32} (hp : p ≤ tx.length) (hM : tY M tx p) (hk : 1 ≤ k) (hk2 : k ≤ 4) (h : M 0 31 = nI k) : ∃ M2, fMd_readQuestion_118 v w M = some ((), M2) ∧ M2 0 31 = nI k ∧ M2 0 32 = M 0 32 ∧ fq zNy M M2 := by
  obtain ⟨M1, a1, a2, a3⟩ := here_Y ht hp hM
  have e : M1 0 31 = nI k := (a3 _ _ (by omega)).trans h
  refine ⟨M1, ?_, e, a3 _ _ (by omega), fun c k hc => a3 c k (by omega)⟩
  rw [fMd_readQuestion_118, a1, cl_some, e, if_pos (show (0 : Int32) < nI k from nI_lt (a := 0) (by omega) (by omega))]
theorem fault_57 {M : zM} {k fu : Nat} {v w g : Int32} (hk : 1 ≤ k) (hk2 : k ≤ 4) (h : M 0 31 = nI k) : fMd_readQuestion_57 (fu + 1) v w g M = fMd_readQuestion_118 v w M := by
  rw [fMd_readQuestion_57, h, if_pos (show ¬ nI k = 0 from nI_ne0 (by omega) (by omega))]
  split <;> rfl
theorem end_Y (ht : tOk tx) {M : zM} {acc : List Nat} {m f : Nat} (hp : p ≤ tx.length) (hM : tY M tx p) (h31 : M 0 31 = 0) (h32 : M 0 32 = -1) (hA : nY M acc) (hl : 2 ≤ acc.length) (hg : mx ≤ acc.length ∨ figO tx (rnB blk tx p) = false) : ∃ M2, fq zNy M M2 ∧ oYn (fMd_readQuestion_118 (nI kd) (nI acc.length) M) M2 tx kd (pN tx n m mx (f + 1) acc p) := by
  have ht1 := ht.1
  obtain ⟨M1, a1, a2, a3⟩ := here_Y ht hp hM
  have hs := rnB_le (f := blk) hp
  have hf1 : fq zNy M M1 := fun c k hc => a3 c k (by omega)
  have z31 : M1 0 31 = 0 := (a3 _ _ (by omega)).trans h31
  have z32 : M1 0 32 = -1 := (a3 _ _ (by omega)).trans h32
  have A1 : nY M1 acc := fun i v hi => (a3 _ _ (by omega)).trans (hA i v hi)
  rw [pN, fMd_readQuestion_118, a1, cl_some, z31, if_neg (by decide)]
  generalize rnB blk tx p = s at a1 a2 hs hg ⊢
  by_cases c1 : tx[s]? = some 59
  · rw [if_pos (show 2 ≤ acc.length ∧ tx[s]? = some 59 from ⟨hl, c1⟩), show byO tx s = 59 by unfold byO; rw [c1]; rfl, if_neg (fun z => z rfl)]
    exact ⟨M1, hf1, rfl, a2, z31, z32, A1⟩
  · rw [if_neg (show ¬ (2 ≤ acc.length ∧ tx[s]? = some 59) from fun z => c1 z.2), if_pos hg]
    have hb : ¬ byO tx s = 59 := by
      unfold byO
      cases h : tx[s]? with
      | none => decide
      | some b =>
        intro z
        have hb2 : b < 256 := ht.2 b (List.mem_of_getElem? h)
        have := (nI_eq (b := 59) (by omega) (by omega)).mp z
        rw [this] at h
        exact c1 h
    rw [if_pos hb, fMd_readQuestion_144, a2.2.2, show fMd_want 0 1 (nI s) M1 = _ from want_0 (k := 1) z31 (by omega) (by omega), cl_some, if_neg (fun z => z rfl)]
    exact ⟨_, fq_tr hf1 failed_Y.2.2, rfl, failed_Y.1, failed_Y.2.1⟩
theorem after_Y (ht : tOk tx) {M : zM} {k fu L : Nat} (hp : p ≤ tx.length) (hM : tY M tx p) (hk : 1 ≤ k) (hk2 : k ≤ 4) (h : M 0 31 = nI k) : ∃ M2, (if nI L + 1 < 2 then fMd_readQuestion_57 (fu + 1) (nI kd) (nI L + 1) 1 M else if ¬ nI kd = 3 then fMd_readQuestion_57 (fu + 1) (nI kd) (nI L + 1) 0 M else if (8 : Int32) ≤ nI L + 1 then fMd_readQuestion_57 (fu + 1) (nI kd) (nI L + 1) 0 M else cl (fMd_here M) fun r3 M2 => cl (fMd_in r3.toInt64 48 57 M2) fun r5 M4 => if r5 = 0 then fMd_readQuestion_57 (fu + 1) (nI kd) (nI L + 1) 0 M4 else fMd_readQuestion_57 (fu + 1) (nI kd) (nI L + 1) 1 M4) = some ((), M2) ∧ M2 0 31 = nI k ∧ M2 0 32 = M 0 32 ∧ fq zNy M M2 := by
  obtain ⟨M1, a1, a2, a3⟩ := here_Y ht hp hM
  have e1 : M1 0 31 = nI k := (a3 _ _ (by omega)).trans h
  obtain ⟨M2, b1, b2, b3, b4⟩ := fault_118 (v := nI kd) (w := nI L + 1) ht hp hM hk hk2 h
  obtain ⟨M3, c1, c2, c3, c4⟩ := fault_118 (v := nI kd) (w := nI L + 1) ht (rnB_le hp) a2 hk hk2 e1
  rw [fault_57 hk hk2 h, fault_57 hk hk2 h, a1, cl_some, in_byO ht, cl_some, fault_57 hk hk2 e1, fault_57 hk hk2 e1, b1, c1]
  by_cases d1 : nI L + 1 < 2
  · rw [if_pos d1]
    exact ⟨M2, rfl, b2, b3, b4⟩
  · rw [if_neg d1]
    by_cases d2 : nI kd = 3
    · rw [if_neg (fun z => z d2)]
      by_cases d3 : (8 : Int32) ≤ nI L + 1
      · rw [if_pos d3]
        exact ⟨M2, rfl, b2, b3, b4⟩
      · rw [if_neg d3]
        refine ⟨M3, by split <;> rfl, c2, c3.trans (a3 _ _ (by omega)), fq_tr (fun c k hc => a3 c k (by omega)) c4⟩
    · rw [if_pos d2]
      exact ⟨M2, rfl, b2, b3, b4⟩
theorem numbers_Y (ht : tOk tx) (hW : gW n E) (hkd : kd < 5) (hmx : mx = if kd = 3 then 8 else 2) : ∀ (f fu : Nat) (acc : List Nat) (p : Nat) (M : zM), mx < acc.length + f → f < fu → p ≤ tx.length → acc.length < mx → (acc.length < 2 ∨ figO tx (rnB blk tx p) = true) → tY M tx p → NetY M n E → M 0 31 = 0 → M 0 32 = -1 → nY M acc →
    ∃ M2, fq zNy M M2 ∧ oYn (fMd_readQuestion_57 fu (nI kd) (nI acc.length) 1 M) M2 tx kd (pN tx n E.length mx f acc p) := by
  have ht1 := ht.1
  have hm8 : mx ≤ 8 ∧ 2 ≤ mx := by
    rw [hmx]
    split <;> omega
  intro f
  induction f with
  | zero => intro fu acc p M h1 h2 h3 h4; omega
  | succ f ih =>
    intro fu acc p M h1 h2 h3 h4 hg h5 h6 h7 h8 h9
    obtain ⟨fu, rfl⟩ : ∃ fu', fu = fu' + 1 + 1 := ⟨fu - 2, by omega⟩
    obtain ⟨M1, a1, a2, ⟨r, hr, a3⟩, a4⟩ := number_Y ht hW (show acc.length < 8 by omega) h3 h5 h6 h7 h8 h9
    have t1 : tY M1 tx r := tY_fr h5 a2 a3
    have hs := rnB_le (f := blk) h3
    have n1 : NetY M1 n E := fq_netY a2 h6 (fun k => by omega)
    rw [fMd_readQuestion_57, if_neg (by decide), h7, if_neg (fun z => z rfl), a1, cl_some, pN]
    have bad : ∀ k, 1 ≤ k → k ≤ 4 → M1 0 31 = nI k → M1 0 32 = nI (rnB blk tx p) → ∃ M2, fq zNy M M2 ∧ oYn (if nI acc.length + 1 < 2 then fMd_readQuestion_57 (fu + 1) (nI kd) (nI acc.length + 1) 1 M1 else if ¬ nI kd = 3 then fMd_readQuestion_57 (fu + 1) (nI kd) (nI acc.length + 1) 0 M1 else if (8 : Int32) ≤ nI acc.length + 1 then fMd_readQuestion_57 (fu + 1) (nI kd) (nI acc.length + 1) 0 M1 else cl (fMd_here M1) fun r3 M2 => cl (fMd_in r3.toInt64 48 57 M2) fun r5 M4 => if r5 = 0 then fMd_readQuestion_57 (fu + 1) (nI kd) (nI acc.length + 1) 0 M4 else fMd_readQuestion_57 (fu + 1) (nI kd) (nI acc.length + 1) 1 M4) M2 tx kd (.inl (k, rnB blk tx p)) := by
      intro k k1 k2 k3 k4
      obtain ⟨M2, b1, b2, b3, b4⟩ := after_Y (kd := kd) (fu := fu) (L := acc.length) ht hr t1 k1 k2 k3
      exact ⟨M2, fq_tr a2 b4, b1, b2, b3.trans k4⟩
    unfold oN at a4
    have c1 : ¬ (2 ≤ acc.length ∧ tx[rnB blk tx p]? = some 59) := by
      rintro ⟨z1, z2⟩
      have z3 := hg.resolve_left (by omega)
      unfold figO at z3
      rw [z2] at z3
      exact absurd z3 (by decide)
    rw [if_neg c1]
    by_cases c2 : figO tx (rnB blk tx p) = false
    · rw [if_pos c2] at a4
      rw [if_pos (Or.inr c2)]
      exact bad 1 (by omega) (by omega) a4.1 a4.2
    · rw [if_neg c2] at a4
      rw [if_neg (show ¬ (mx ≤ acc.length ∨ figO tx (rnB blk tx p) = false) from fun z => z.elim (fun z => by omega) c2)]
      by_cases c3 : 2 < rnB fig tx (rnB blk tx p) - rnB blk tx p
      · rw [if_pos c3] at a4
        rw [if_pos c3]
        exact bad 2 (by omega) (by omega) a4.1 a4.2
      · rw [if_neg c3] at a4
        rw [if_neg c3]
        by_cases c4 : vd tx (rnB blk tx p) (rnB fig tx (rnB blk tx p) - rnB blk tx p) < if 2 ≤ acc.length then E.length else n
        · rw [if_pos c4] at a4
          rw [if_pos c4]
          have he := rnB_le (f := fig) hs
          generalize vd tx (rnB blk tx p) (rnB fig tx (rnB blk tx p) - rnB blk tx p) = v at a4 c4 ⊢
          generalize rnB fig tx (rnB blk tx p) = e at a4 he c3 ⊢
          obtain ⟨y1, y2, y3, y4⟩ := a4
          have el : (acc ++ [v]).length = acc.length + 1 := by simp
          obtain ⟨f, rfl⟩ : ∃ f', f = f' + 1 := ⟨f - 1, by omega⟩
          have E0 : ∀ (M' : zM) (p' : Nat), p' ≤ tx.length → tY M' tx p' → M' 0 31 = 0 → M' 0 32 = -1 → nY M' (acc ++ [v]) → 2 ≤ acc.length + 1 → (mx ≤ acc.length + 1 ∨ figO tx (rnB blk tx p') = false) → ∃ M2, fq zNy M' M2 ∧ oYn (fMd_readQuestion_57 (fu + 1) (nI kd) (nI (acc.length + 1)) 0 M') M2 tx kd (pN tx n E.length mx (f + 1) (acc ++ [v]) p') := by
            intro M' p' q1 q2 q3 q4 q5 q6 q7
            rw [fMd_readQuestion_57, if_pos rfl, ← el]
            exact end_Y ht q1 q2 q3 q4 q5 (by omega) (by rw [el]; exact q7)
          rw [nI_1]
          by_cases d1 : acc.length + 1 < 2
          · rw [if_pos (show nI (acc.length + 1) < 2 from nI_lt (b := 2) d1 (by omega)), ← el]
            obtain ⟨M2, g1, g2⟩ := ih (fu + 1) (acc ++ [v]) e M1 (by omega) (by omega) he (by omega) (Or.inl (by omega)) y1 n1 y2 y3 y4
            exact ⟨M2, fq_tr a2 g1, g2⟩
          · rw [if_neg (show ¬ nI (acc.length + 1) < 2 from nI_nlt (b := 2) (by omega) (by omega))]
            by_cases d2 : kd = 3
            · rw [if_pos d2] at hmx
              rw [if_neg (show ¬ ¬ nI kd = 3 from fun z => z (by rw [d2]; rfl))]
              by_cases d3 : 8 ≤ acc.length + 1
              · rw [if_pos (show (8 : Int32) ≤ nI (acc.length + 1) from nI_le (a := 8) d3 (by omega))]
                obtain ⟨M2, g1, g2⟩ := E0 M1 e he y1 y2 y3 y4 (by omega) (Or.inl (by omega))
                exact ⟨M2, fq_tr a2 g1, g2⟩
              · obtain ⟨M4, b1, b2, b3⟩ := here_Y ht he y1
                rw [if_neg (show ¬ (8 : Int32) ≤ nI (acc.length + 1) from nI_ge (b := 8) (by omega) (by omega)), b1, cl_some, in_byO ht, cl_some]
                have hf4 : fq zNy M1 M4 := fun c k hc => b3 c k (by omega)
                have w1 : M4 0 31 = 0 := (b3 _ _ (by omega)).trans y2
                have w2 : M4 0 32 = -1 := (b3 _ _ (by omega)).trans y3
                have w3 : nY M4 (acc ++ [v]) := fun i x hi => (b3 _ _ (by omega)).trans (y4 i x hi)
                have hes := rnB_le (f := blk) he
                rw [← pN_skip he]
                cases d4 : figO tx (rnB blk tx e)
                · rw [bI_f, if_pos rfl]
                  obtain ⟨M2, g1, g2⟩ := E0 M4 _ hes b2 w1 w2 w3 (by omega) (Or.inr (by rw [rnB_idem he]; exact d4))
                  exact ⟨M2, fq_tr a2 (fq_tr hf4 g1), g2⟩
                · rw [bI_t, if_neg (by decide), ← el]
                  obtain ⟨M2, g1, g2⟩ := ih (fu + 1) (acc ++ [v]) (rnB blk tx e) M4 (by omega) (by omega) hes (by omega) (Or.inr (by rw [rnB_idem he]; exact d4)) b2 (fq_netY b3 n1 (fun k => by omega)) w1 w2 w3
                  exact ⟨M2, fq_tr a2 (fq_tr hf4 g1), g2⟩
            · rw [if_neg d2] at hmx
              rw [if_pos (show ¬ nI kd = 3 from fun z => d2 ((nI_eq (b := 3) (by omega) (by omega)).mp z))]
              obtain ⟨M2, g1, g2⟩ := E0 M1 e he y1 y2 y3 y4 (by omega) (Or.inl (by omega))
              exact ⟨M2, fq_tr a2 g1, g2⟩
        · rw [if_neg c4] at a4
          rw [if_neg c4]
          exact bad 3 (by omega) (by omega) a4.1 a4.2
end nzS
