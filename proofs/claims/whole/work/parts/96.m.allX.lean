/-! PURE: reading, the loop of the class, whole -/
def qOk (n m : Nat) (x : Nat × List Nat) : Prop := x.1 < 5 ∧ 2 ≤ x.2.length ∧ x.2.length ≤ 8 ∧ vOk n m x.2
section lzS
variable {tx : List Nat} {p n : Nat} {E : List (Nat × Nat)}
theorem wmx_ok (w : Nat) : 2 ≤ wmx w ∧ wmx w ≤ 8 := by
  unfold wmx
  split <;> omega
theorem pQ_bad {m d k pl : Nat} (hp : p ≤ tx.length) (h : pQ tx n m d p = .inl (k, pl)) : 1 ≤ k ∧ k ≤ 4 := by
  unfold pQ at h
  cases hw : wno tx p (rnB ltr tx p) 5 with
  | none =>
    rw [hw] at h
    have e := Prod.mk.inj (Sum.inl.inj h)
    omega
  | some w2 =>
    rw [hw] at h
    by_cases hd : 12 ≤ d
    · simp only [if_pos hd] at h
      have e := Prod.mk.inj (Sum.inl.inj h)
      omega
    · simp only [if_neg hd] at h
      cases hN : pN tx n m (wmx w2) 9 [] (rnB ltr tx p) with
      | inl x =>
        rw [hN] at h
        obtain ⟨k2, pl2⟩ := x
        have e := Prod.mk.inj (Sum.inl.inj h)
        have ok := (pN_ok (tx := tx) (n := n) (m := m) (wmx_ok w2).1 9 [] (rnB ltr tx p) (rnB_le hp) (by simp) (fun i v hi => by simp at hi)).1 k2 pl2 hN
        omega
      | inr x =>
        obtain ⟨a2, s2⟩ := x
        rw [hN] at h
        cases h
theorem pQ_good {m d s w : Nat} {acc : List Nat} (hp : p ≤ tx.length) (h : pQ tx n m d p = .inr (w, acc, s)) : d < 12 ∧ s < tx.length ∧ qOk n m (w, acc) := by
  obtain ⟨h1, h2, h3⟩ := pQ_12 h
  have ok := (pN_ok (tx := tx) (n := n) (m := m) (wmx_ok w).1 9 [] (rnB ltr tx p) (rnB_le hp) (by simp) (fun i v hi => by simp at hi)).2 acc s h3
  have h8 := (wmx_ok w).2
  exact ⟨h1, ok.2.2.2.1, h2, ok.1, Nat.le_trans ok.2.1 h8, ok.2.2.1⟩
theorem pR_ok {m : Nat} : ∀ (f : Nat) (Q : List (Nat × List Nat)) (p : Nat), p ≤ tx.length → Q.length ≤ 12 → (∀ x ∈ Q, qOk n m x) → (∀ k pl, pR tx n m f Q p = .inl (k, pl) → 1 ≤ k ∧ k ≤ 4) ∧ ∀ Q2, pR tx n m f Q p = .inr Q2 → Q2.length ≤ 12 ∧ ∀ x ∈ Q2, qOk n m x
  | 0, Q, p, hp, hl, hq => by
    refine ⟨fun k pl h => ?_, fun Q2 h => by cases h⟩
    have e := Prod.mk.inj (Sum.inl.inj h)
    omega
  | f + 1, Q, p, hp, hl, hq => by
    rw [pR]
    by_cases c : tx.length ≤ p
    · rw [if_pos c]
      refine ⟨fun k pl h => (by cases h), fun Q2 h => ?_⟩
      rw [← Sum.inr.inj h]
      exact ⟨hl, hq⟩
    · rw [if_neg c]
      cases hQ : pQ tx n m Q.length p with
      | inl x =>
        refine ⟨fun k pl h => ?_, fun Q2 h => by cases h⟩
        rw [Sum.inl.inj h] at hQ
        exact pQ_bad hp hQ
      | inr x =>
        obtain ⟨w, acc, s⟩ := x
        obtain ⟨h1, h2, h3⟩ := pQ_good hp hQ
        exact pR_ok f (Q ++ [(w, acc)]) (rnB blk tx (s + 1)) (rnB_le (by omega)) (by rw [List.length_append, List.length_singleton]; omega) (fun x hx => by
          rcases List.mem_append.mp hx with h | h
          · exact hq x h
          · rw [List.mem_singleton.mp h]
            exact h3)
theorem push_at {α : Type} {Q : List α} {x y : α} {j : Nat} (h : (Q ++ [x])[j]? = some y) : (j < Q.length ∧ Q[j]? = some y) ∨ (j = Q.length ∧ x = y) := by
  by_cases c : j < Q.length
  · rw [List.getElem?_append_left c] at h
    exact Or.inl ⟨c, h⟩
  · rw [List.getElem?_append_right (by omega)] at h
    have hj : j - Q.length < 1 := (List.getElem?_eq_some_iff.mp h).1
    have e : j - Q.length = 0 := by omega
    rw [e] at h
    exact Or.inr ⟨by omega, Option.some.inj h⟩
theorem readAll_X (ht : tOk tx) (hW : gW n E) : ∀ (f fu : Nat) (Q : List (Nat × List Nat)) (p : Nat) (M : zM), 14 ≤ Q.length + f → f < fu → Q.length ≤ 12 → p ≤ tx.length → tX M tx p → NetX M n E → M 56 4 = 0 → M 56 3 = -1 → M 56 6 = nI Q.length → qX M Q →
    ∃ M2, fScript_readAll_26 fu (nI Q.length) M = some (M2 56 4, M2) ∧ fq zBx M M2 ∧ M2 56 2 = 0 ∧ oRx M2 (pR tx n E.length f Q p) := by
  have ht1 := ht.1
  intro f
  induction f with
  | zero => intro fu Q p M h1 h2 h3; omega
  | succ f ih =>
    intro fu Q p M h1 h2 h3 h4 h5 h6 h7 h8 h9 h10
    obtain ⟨fu, rfl⟩ : ∃ fu', fu = fu' + 1 + 1 := ⟨fu - 2, by omega⟩
    rw [fScript_readAll_26, if_neg (show ¬ (12 : Int32) < nI Q.length from nI_nlt (a := 12) h3 (by omega)), h5.1, h5.2.2, pR]
    by_cases hl : tx.length ≤ p
    · rw [if_pos (nI_le hl (by omega)), if_pos hl, wf_eq]
      have hf : fq (fun c k => c = 56 ∧ k = 2) M (zs M 56 2 0) := fq_zs fq_rf ⟨rfl, rfl⟩
      exact ⟨_, rfl, fun c k hc => hf c k (by omega), zs_eq, (hf _ _ (by omega)).trans h7, (hf _ _ (by omega)).trans h8, (hf _ _ (by omega)).trans h9, fun j w acc hj => ⟨(hf _ _ (by omega)).trans (h10 j w acc hj).1, fun v hv => (hf _ _ (by omega)).trans ((h10 j w acc hj).2.1 v hv), fun v hv => (hf _ _ (by omega)).trans ((h10 j w acc hj).2.2.1 v hv), (hf _ _ (by omega)).trans (h10 j w acc hj).2.2.2⟩⟩
    · rw [if_neg (nI_ge (by omega) (by omega)), if_neg hl, h7, if_neg (fun z => z rfl)]
      obtain ⟨M4, a1, a2, ⟨r, hr, a3⟩, a4⟩ := question_X ht hW h3 h4 h5 h6 h7 h8 h9
      have t4 : tX M4 tx r := ⟨(a2 _ _ (by omega)).trans h5.1, fun i b hi => (a2 _ _ (by omega)).trans (h5.2.1 i b hi), a3⟩
      obtain ⟨M5, b1, b2, b3⟩ := skip_X ht hr t4
      rw [a1, cl_some, b1, cl_some, nI_1]
      have hf5 : fq zBx M M5 := fun c k hc => (b3 c k (by omega)).trans (a2 c k (by omega))
      cases hQ : pQ tx n E.length Q.length p with
      | inl x =>
        rw [hQ] at a4
        obtain ⟨k, pl⟩ := x
        have hk := pQ_bad h4 hQ
        have zk : ¬ M5 56 4 = 0 := fun z => by
          rw [b3 _ _ (by omega), a4.1] at z
          have := (nI_eq (b := 0) (by omega) (by omega)).mp z
          omega
        have hf6 : fq (fun c k => c = 56 ∧ k = 2) M5 (zs M5 56 2 0) := fq_zs fq_rf ⟨rfl, rfl⟩
        exact ⟨_, fin_X zk, fun c k hc => (hf6 c k (by omega)).trans (hf5 c k hc), zs_eq, (hf6 _ _ (by omega)).trans ((b3 _ _ (by omega)).trans a4.1), (hf6 _ _ (by omega)).trans ((b3 _ _ (by omega)).trans a4.2)⟩
      | inr x =>
        obtain ⟨w, acc, s⟩ := x
        rw [hQ] at a4
        obtain ⟨g1, g2, g3⟩ := pQ_good h4 hQ
        obtain ⟨t1, t2, t3, t4', t5, t6, t7, t8⟩ := a4
        have er : r = s + 1 := (nI_eq (by omega) (by omega)).mp (a3.symm.trans t1.2.2)
        rw [er] at b2
        have el : (Q ++ [(w, acc)]).length = Q.length + 1 := by rw [List.length_append, List.length_singleton]
        have n5 : NetX M5 n E := fq_net hf5 h6 (fun k => by omega)
        obtain ⟨M6, c1, c2, c3⟩ := ih (fu + 1) (Q ++ [(w, acc)]) (rnB blk tx (s + 1)) M5 (by omega) (by omega) (by omega) (rnB_le (by omega)) b2 n5 ((b3 _ _ (by omega)).trans t2) ((b3 _ _ (by omega)).trans t3) (by rw [el]; exact (b3 _ _ (by omega)).trans t4') (fun j w2 acc2 hj => by
          rcases push_at hj with ⟨d1, d2⟩ | ⟨d1, d2⟩
          · have hh := h10 j w2 acc2 d2
            have G : ∀ c, 58 ≤ c → c ≤ 61 → M5 c j = M c j := fun c e1 e2 => (b3 _ _ (by omega)).trans (a2 _ _ (by omega))
            rw [G 58 (by omega) (by omega), G 59 (by omega) (by omega), G 60 (by omega) (by omega), G 61 (by omega) (by omega)]
            exact hh
          · have e1 : w = w2 := (Prod.mk.inj d2).1
            have e2 : acc = acc2 := (Prod.mk.inj d2).2
            rw [← e1, ← e2, d1, b3 58 _ (by omega), b3 59 _ (by omega), b3 60 _ (by omega), b3 61 _ (by omega)]
            exact ⟨t5, t6, t7, t8⟩)
        rw [el] at c1
        exact ⟨M6, c1, fq_tr hf5 c2, c3⟩
end lzS
