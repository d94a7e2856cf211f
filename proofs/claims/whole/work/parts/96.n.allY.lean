/-! PURE: reading, the loop of the reference -/
def qYs (M : zM) (n : Nat) (E : List (Nat × Nat)) (Q : List (Nat × List Nat)) : Prop := ∀ (j w : Nat) (acc : List Nat) (a b : Nat), Q[j]? = some (w, acc) → acc[0]? = some a → acc[1]? = some b → qA n E w a b (lmk (acc.drop 2)) (M 27 j)
abbrev zAy : Nat → Nat → Prop := fun c k => zNy c k ∨ zY c k ∨ (c = 0 ∧ (k = 33 ∨ k = 34 ∨ k = 38)) ∨ c = 27
def oRy (M2 : zM) (n : Nat) (E : List (Nat × Nat)) : (Nat × Nat) ⊕ List (Nat × List Nat) → Prop
  | .inl (k, pl) => M2 0 31 = nI k ∧ M2 0 32 = nI pl
  | .inr Q => M2 0 31 = 0 ∧ M2 0 32 = -1 ∧ M2 0 38 = nI Q.length ∧ qYs M2 n E Q
section lyS
variable {tx : List Nat} {p n : Nat} {E : List (Nat × Nat)}
theorem rnB_id {f : Nat → Bool} (hp : p ≤ tx.length) : rnB f tx (rnB f tx p) = rnB f tx p := by
  cases h : tx[rnB f tx p]? with
  | none => exact rnB_end (List.getElem?_eq_none_iff.mp h)
  | some b => exact rnB_no h (rnB_stop hp h)
theorem readAll_Y (ht : tOk tx) (hW : gW n E) : ∀ (f fu : Nat) (Q : List (Nat × List Nat)) (p : Nat) (M : zM), 14 ≤ Q.length + f → f < fu → Q.length ≤ 12 → p ≤ tx.length → tY M tx p → NetY M n E → M 0 31 = 0 → M 0 32 = -1 → M 0 38 = nI Q.length → qYs M n E Q →
    ∃ M2, fMd_read_20 fu M = fMd_read_41 M2 ∧ fq zAy M M2 ∧ oRy M2 n E (pR tx n E.length f Q (rnB blk tx p)) := by
  have ht1 := ht.1
  intro f
  induction f with
  | zero => intro fu Q p M h1 h2 h3; omega
  | succ f ih =>
    intro fu Q p M h1 h2 h3 h4 h5 h6 h7 h8 h9 h10
    obtain ⟨fu, rfl⟩ : ∃ fu', fu = fu' + 1 + 1 := ⟨fu - 2, by omega⟩
    obtain ⟨M1, a1, a2, a3⟩ := here_Y ht h4 h5
    have hq := rnB_le (f := blk) h4
    have hid := rnB_id (f := blk) h4
    rw [fMd_read_20, if_neg (fun z => z h7), a1, cl_some, pR]
    generalize rnB blk tx p = q at hq hid a2 ⊢
    have f1 : fq zAy M M1 := fun c k hc => a3 c k (by omega)
    have z7 : M1 0 31 = 0 := (a3 _ _ (by omega)).trans h7
    have z8 : M1 0 32 = -1 := (a3 _ _ (by omega)).trans h8
    have z9 : M1 0 38 = nI Q.length := (a3 _ _ (by omega)).trans h9
    have zq : qYs M1 n E Q := fun j w acc a b hj ha hb => by
      rw [a3 27 j (by omega)]
      exact h10 j w acc a b hj ha hb
    by_cases hl : tx.length ≤ q
    · have eb : byO tx q = -1 := by
        unfold byO
        rw [List.getElem?_eq_none hl]
      rw [eb, if_pos (by decide), if_pos hl]
      exact ⟨M1, rfl, f1, z7, z8, z9, zq⟩
    · obtain ⟨b, hb, hb2⟩ := tOk_get ht (show q < tx.length by omega)
      have eb : byO tx q = nI b := by
        unfold byO
        rw [hb]
      rw [eb, if_neg (nI_nlt0 (by omega)), if_neg hl]
      have n1 : NetY M1 n E := fq_netY f1 h6 (fun k => by omega)
      obtain ⟨M3, b1, b2, b3⟩ := question_Y ht hW h3 hq hid a2 n1 z7 z8 z9
      rw [b1, cl_some]
      have f3 : fq zAy M M3 := fq_tr f1 (fun c k hc => b2 c k (by omega))
      cases hQ : pQ tx n E.length Q.length q with
      | inl x =>
        obtain ⟨k, pl⟩ := x
        rw [hQ] at b3
        have hk := pQ_bad hq hQ
        have zk : ¬ M3 0 31 = 0 := fun z => by
          rw [b3.1] at z
          have := (nI_eq (b := 0) (by omega) (by omega)).mp z
          omega
        refine ⟨M3, ?_, f3, b3⟩
        rw [fMd_read_20, if_pos zk]
      | inr x =>
        obtain ⟨w, acc, s⟩ := x
        rw [hQ] at b3
        obtain ⟨g1, g2, g3⟩ := pQ_good hq hQ
        obtain ⟨t1, t2, t3, t4, t5⟩ := b3
        have el : (Q ++ [(w, acc)]).length = Q.length + 1 := by rw [List.length_append, List.length_singleton]
        have n3 : NetY M3 n E := fq_netY f3 h6 (fun k => by omega)
        obtain ⟨M6, c1, c2, c3⟩ := ih (fu + 1) (Q ++ [(w, acc)]) (s + 1) M3 (by omega) (by omega) (by omega) (by omega) t1 n3 t2 t3 (by rw [el]; exact t4) (fun j w2 acc2 a b hj ha hb => by
          rcases push_at hj with ⟨d1, d2⟩ | ⟨d1, d2⟩
          · rw [b2 27 j (by omega)]
            exact zq j w2 acc2 a b d2 ha hb
          · have e1 : w = w2 := (Prod.mk.inj d2).1
            have e2 : acc = acc2 := (Prod.mk.inj d2).2
            rw [← e2] at ha hb
            rw [← e1, ← e2, d1]
            exact t5 a b ha hb)
        exact ⟨M6, c1, fq_tr f3 c2, c3⟩
end lyS
