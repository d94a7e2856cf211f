/-! PURE: reading, the answers laid down -/
section fiS
variable {tx : List Nat} {p n : Nat} {E : List (Nat × Nat)}
abbrev zFx : Nat → Nat → Prop := fun c k => zL c k ∨ c = 62
theorem fill_X (hW : gW n E) {M : zM} {Q : List (Nat × List Nat)} (hl : Q.length ≤ 12) (hq : ∀ x ∈ Q, qOk n E.length x) (hN : NetX M n E) (hC : CX M n E) (hK : KX M) (h6 : M 56 6 = nI Q.length) (hX : qX M Q) :
    ∃ M2, fNN_read_33 FU 0 M = some (M 56 11, M2) ∧ fq zFx M M2 ∧ CX M2 n E ∧ ∀ (j w : Nat) (acc : List Nat) (a b : Nat), Q[j]? = some (w, acc) → acc[0]? = some a → acc[1]? = some b → qA n E w a b (lmk (acc.drop 2)) (M2 62 j) := by
  refine lpE (f := fun fu k (_ : Unit) M1 => fNN_read_33 fu (nI k) M1) (n := Q.length)
    (I := fun k _ M1 => fq zFx M M1 ∧ CX M1 n E ∧ ∀ (j w : Nat) (acc : List Nat) (a b : Nat), j < k → Q[j]? = some (w, acc) → acc[0]? = some a → acc[1]? = some b → qA n E w a b (lmk (acc.drop 2)) (M1 62 j))
    (R := fun o => ∃ M2, o = some (M 56 11, M2) ∧ fq zFx M M2 ∧ CX M2 n E ∧ ∀ (j w : Nat) (acc : List Nat) (a b : Nat), Q[j]? = some (w, acc) → acc[0]? = some a → acc[1]? = some b → qA n E w a b (lmk (acc.drop 2)) (M2 62 j)) ?_ ?_ 0 FU () M (Nat.zero_le _) (fu_ok (by omega)) ⟨fq_rf, hC, fun j w acc a b hj => by omega⟩
  · rintro fu - M1 ⟨i1, i2, i3⟩
    refine ⟨M1, ?_, i1, i2, fun j w acc a b hj => i3 j w acc a b (List.getElem?_eq_some_iff.mp hj).1 hj⟩
    rw [fNN_read_33, i1 56 6 (by omega), h6, if_pos (nI_le (Nat.le_refl _) (by omega)), i1 56 11 (by omega)]
  · rintro fu k - M1 hk ⟨i1, i2, i3⟩
    right
    obtain ⟨⟨w, acc⟩, hx⟩ : ∃ x, Q[k]? = some x := ⟨_, List.getElem?_eq_getElem hk⟩
    obtain ⟨o1, o2, o3, o4⟩ := hq (w, acc) (List.mem_of_getElem? hx)
    obtain ⟨a, ha⟩ : ∃ a, acc[0]? = some a := ⟨_, List.getElem?_eq_getElem (show 0 < acc.length from Nat.lt_of_lt_of_le (by decide) o2)⟩
    obtain ⟨b, hb⟩ : ∃ b, acc[1]? = some b := ⟨_, List.getElem?_eq_getElem (show 1 < acc.length from Nat.lt_of_lt_of_le (by decide) o2)⟩
    obtain ⟨l1, l2⟩ := lmk_ok hW o4 o3
    have l3 : lmk (acc.drop 2) < 2 ^ 30 := Nat.lt_of_lt_of_le l1 (Nat.pow_le_pow_right (by decide) hW.2.1)
    obtain ⟨x1, x2, x3, x4⟩ := hX k w acc hx
    have n1 : NetX M1 n E := fq_net i1 hN (fun k => by omega)
    have k1 : KX M1 := hK.fq i1 (fun c k _ _ => by omega)
    obtain ⟨r, M2, r1, r2, r3, r4⟩ := answer_X hW n1 i2 k1 (show w < 5 from o1) (o4 0 a ha) (o4 1 b hb) l3 l2
    have hf : fq (fun c j => c = 62 ∧ j = k) M2 (zs M2 62 k r) := fq_zs fq_rf ⟨rfl, rfl⟩
    refine ⟨(), zs M2 62 k r, ?_, fq_tr i1 (fun c j hc => (hf c j (by omega)).trans (r4 c j (by omega))), r3.fq hf (fun c k _ _ => by omega) (by omega), fun j w2 acc2 a2 b2 hj hj2 ha2 hb2 => ?_⟩
    · show fNN_read_33 (fu + 1) (nI k) M1 = _
      rw [fNN_read_33, i1 56 6 (by omega), h6, if_neg (nI_ge hk (by omega)), rd_ok (show k < 12 by omega) (by decide), rd_ok (show k < 12 by omega) (by decide), rd_ok (show k < 12 by omega) (by decide), rd_ok (show k < 12 by omega) (by decide), i1 58 k (by omega), i1 59 k (by omega), i1 60 k (by omega), i1 61 k (by omega), x1, x2 a ha, x3 b hb, x4, r1, cl_some, wr_ok (show k < 12 by omega) (by decide), nI_1]
    · by_cases e : j = k
      · rw [e] at hj2 ⊢
        rw [hx] at hj2
        have e1 := Prod.mk.inj (Option.some.inj hj2)
        rw [← e1.2] at ha2 hb2
        rw [ha] at ha2
        rw [hb] at hb2
        rw [zs_eq, ← e1.1, ← e1.2, ← Option.some.inj ha2, ← Option.some.inj hb2]
        exact r2
      · rw [hf 62 j (by omega), r4 62 j (by omega)]
        exact i3 j w2 acc2 a2 b2 (by omega) hj2 ha2 hb2
theorem fill_Y {M : zM} {d : Nat} (hd : d ≤ 12) (h8 : M 0 38 = nI d) : ∃ M2, fMd_read_63 FU 0 M = some (nI d, M2) ∧ fq (fun c k => c = 26 ∨ (c = 0 ∧ k = 35)) M M2 ∧ M2 0 35 = nI d ∧ ∀ j, j < d → M2 26 j = M 27 j := by
  refine lpE (f := fun fu k (_ : Unit) M1 => fMd_read_63 fu (nI k) M1) (n := d)
    (I := fun k _ M1 => fq (fun c _ => c = 26) M M1 ∧ ∀ j, j < k → M1 26 j = M 27 j)
    (R := fun o => ∃ M2, o = some (nI d, M2) ∧ fq (fun c k => c = 26 ∨ (c = 0 ∧ k = 35)) M M2 ∧ M2 0 35 = nI d ∧ ∀ j, j < d → M2 26 j = M 27 j) ?_ ?_ 0 FU () M (Nat.zero_le _) (fu_ok (by omega)) ⟨fq_rf, fun j hj => by omega⟩
  · rintro fu - M1 ⟨i1, i2⟩
    have hf : fq (fun c k => c = 0 ∧ k = 35) M1 (zs M1 0 35 (nI d)) := fq_zs fq_rf ⟨rfl, rfl⟩
    refine ⟨zs M1 0 35 (nI d), ?_, fun c k hc => (hf c k (by omega)).trans (i1 c k (by omega)), zs_eq, fun j hj => (hf _ _ (by omega)).trans (i2 j hj)⟩
    rw [fMd_read_63, i1 0 38 (by omega), h8, if_pos (nI_le (Nat.le_refl _) (by omega)), wf_eq, zs_eq]
  · rintro fu k - M1 hk ⟨i1, i2⟩
    right
    have hf : fq (fun c j => c = 26 ∧ j = k) M1 (zs M1 26 k (M1 27 k)) := fq_zs fq_rf ⟨rfl, rfl⟩
    refine ⟨(), zs M1 26 k (M1 27 k), ?_, fq_tr i1 (fun c j hc => hf c j (by omega)), fun j hj => ?_⟩
    · show fMd_read_63 (fu + 1) (nI k) M1 = _
      rw [fMd_read_63, i1 0 38 (by omega), h8, if_neg (nI_ge hk (by omega)), rd_ok (show k < 12 by omega) (by decide), wr_ok (show k < 12 by omega) (by decide), nI_1]
    · by_cases e : j = k
      · rw [e, zs_eq]
        exact i1 27 k (by omega)
      · rw [hf 26 j (by omega)]
        exact i2 j (by omega)
end fiS
