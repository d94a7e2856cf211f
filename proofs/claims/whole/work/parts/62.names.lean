/-! PURE: names, as lists of numbers, and one more number at the end of one -/
def NmY (M : zM) (nm : Nat → List Nat) : Prop := ∀ q, q < 12 → M 12 q = nI (nm q).length ∧ ∀ j a : Nat, (nm q)[j]? = some a → M 13 (26 * q + j) = nI a
def NmX (M : zM) (c0 w : Nat) (nm : Nat → List Nat) : Prop := M c0 1 = nI w ∧ ∀ q, q < 12 → M (c0 + 1) q = nI (nm q).length ∧ (nm q).length ≤ w ∧ ∀ j a : Nat, (nm q)[j]? = some a → M (c0 + 2) (q * w + j) = nI a
theorem nI_times (a b : Nat) : nI a * nI b = nI (a * b) := (Int32.ofNat_mul a b).symm
theorem put_ok {M : zM} {nm : Nat → List Nat} (h : NmY M nm) (hl : ∀ q, q < 12 → (nm q).length ≤ 26) {q a : Nat} (hq : q < 12) (hlq : (nm q).length < 26) :
    ∃ M2, fMd_put (nI q) (nI a) M = some ((), M2) ∧ NmY M2 (fup nm q (nm q ++ [a])) ∧ fr [12, 13] [] M M2 := by
  have hMq := h q hq
  refine ⟨zs (zs M 13 (26 * q + (nm q).length) (nI a)) 12 q (nI ((nm q).length + 1)), ?_, fun x hx => ⟨?_, fun j b hj => ?_⟩, fr_zs (fr_zs fr_rf rfl) rfl⟩
  · rw [fMd_put, rd_ok hq (by decide), hMq.1, show (26 : Int32) * nI q = nI (26 * q) from nI_times 26 q, nI_add, wr_ok (show 26 * q + (nm q).length < 312 by omega) (by decide), rd_ok hq (by decide), zs_nc (by decide), hMq.1, nI_1, wr_ok hq (by decide)]
  · by_cases hxq : x = q
    · rw [hxq, zs_eq, fup_eq, List.length_append]
      rfl
    · rw [zs_nk hxq, zs_nc (by decide), fup_ne hxq]
      exact (h x hx).1
  · rw [zs_nc (by decide)]
    by_cases hxq : x = q
    · rw [hxq, fup_eq] at hj
      rw [hxq]
      rcases app_get hj with ⟨h1, h2⟩ | ⟨h1, h2⟩
      · rw [zs_nk (by omega)]
        exact hMq.2 j b h2
      · rw [h1, h2, zs_eq]
    · rw [fup_ne hxq] at hj
      have hjl := (List.getElem?_eq_some_iff.mp hj).1
      have := hl x hx
      rw [zs_nk (by omega)]
      exact (h x hx).2 j b hj
theorem append_ok {M : zM} {c0 w : Nat} {nm : Nat → List Nat} (h : NmX M c0 w nm) (hw : w ≤ 26) (hz : zln (c0 + 2) = 12 * w) {q a : Nat} (hq : q < 12) (hlq : (nm q).length < w) :
    ∃ M2, fNames_append c0 (nI q) (nI a) M = some ((), M2) ∧ NmX M2 c0 w (fup nm q (nm q ++ [a])) ∧ fr [c0 + 1, c0 + 2] [] M M2 := by
  have hMq := h.2 q hq
  have hqw : ∀ x, x < 12 → x * w + w ≤ 12 * w := fun x hx => by
    have : (x + 1) * w ≤ 12 * w := Nat.mul_le_mul_right w hx
    rw [Nat.add_mul, Nat.one_mul] at this
    exact this
  have hin := hqw q hq
  have hfr : fr [c0 + 1, c0 + 2] [] M (zs (zs M (c0 + 2) (q * w + (nm q).length) (nI a)) (c0 + 1) q (nI ((nm q).length + 1))) := fr_zs (fr_zs fr_rf (by simp)) (by simp)
  refine ⟨zs (zs M (c0 + 2) (q * w + (nm q).length) (nI a)) (c0 + 1) q (nI ((nm q).length + 1)), ?_, ⟨?_, fun x hx => ⟨?_, ?_, fun j b hj => ?_⟩⟩, hfr⟩
  · rw [fNames_append, rd_ok hq (by decide), hMq.1, h.1, if_neg (nI_ge hlq (by omega)), rd_ok hq (by decide), hMq.1, nI_times, nI_add, wr_ok (show q * w + (nm q).length < zln (c0 + 2) by omega) (by omega), rd_ok hq (by decide), zs_nc (by omega), hMq.1, nI_1, wr_ok hq (by decide)]
  · rw [zs_nc (by omega), zs_nc (by omega)]
    exact h.1
  · by_cases hxq : x = q
    · rw [hxq, zs_eq, fup_eq, List.length_append]
      rfl
    · rw [zs_nk hxq, zs_nc (by omega), fup_ne hxq]
      exact (h.2 x hx).1
  · by_cases hxq : x = q
    · rw [hxq, fup_eq, List.length_append]
      exact hlq
    · rw [fup_ne hxq]
      exact (h.2 x hx).2.1
  · rw [zs_nc (by omega)]
    by_cases hxq : x = q
    · rw [hxq, fup_eq] at hj
      rw [hxq]
      rcases app_get hj with ⟨h1, h2⟩ | ⟨h1, h2⟩
      · rw [zs_nk (by omega)]
        exact hMq.2.2 j b h2
      · rw [h1, h2, zs_eq]
    · rw [fup_ne hxq] at hj
      have hjl := (List.getElem?_eq_some_iff.mp hj).1
      have hxl := (h.2 x hx).2.1
      rw [zs_nk (fun z => by
        rcases Nat.lt_trichotomy x q with hl | hl | hl
        · have : (x + 1) * w ≤ q * w := Nat.mul_le_mul_right w hl
          rw [Nat.add_mul, Nat.one_mul] at this
          omega
        · exact hxq hl
        · have : (q + 1) * w ≤ x * w := Nat.mul_le_mul_right w hl
          rw [Nat.add_mul, Nat.one_mul] at this
          omega)]
      exact (h.2 x hx).2.2 j b hj
