/-! PURE: goDown and findSpans, in the reference -/
theorem sS_r1 {T : tT} {w : Nat → Nat} {o : Option Nat} {k : Nat} (h : tP T k = o) : sS T w o (List.range (k + 1)) = sS T w o (List.range k) + w k := by
  rw [List.range_succ, sS_1 h]
theorem sS_r0 {T : tT} {w : Nat → Nat} {o : Option Nat} {k : Nat} (h : ¬ tP T k = o) : sS T w o (List.range (k + 1)) = sS T w o (List.range k) := by
  rw [List.range_succ, sS_0 h]
/-- how a walk from q goes -/
def dnOk (n : Nat) (E : List (Nat × Nat)) (r q : Nat) : Prop := ∀ (f : Nat) (M : zM), parY M n E → M 8 q = nI (gEnt n E q) →
  ∃ M2, fMd_goDown_27 (f + (2 * gWt n E q - 1)) (nI r) (nI (gEnt n E q + 1)) (nI q) (-1) M = fMd_goDown_27 f (nI r) (nI (gEnt n E q + gWt n E q)) (oI (tP (gTree n E) q)) (nI q) M2 ∧
    (∀ x, x < n → (und (gTree n E) q x → okN M2 n E x) ∧ (¬ und (gTree n E) q x → sameN M M2 x)) ∧ fr [8, 9] [] M M2
theorem kids_Y {n : Nat} {E : List (Nat × Nat)} (hW : gW n E) {r q f : Nat} (hr : r < n) (hq : q < n) (hroot : tP (gTree n E) r = none) (hk : ∀ c, c < n → tP (gTree n E) c = some q → dnOk n E r c) : ∀ (d k fuel : Nat) (M : zM), n - k = d → k ≤ n → d < fuel → parY M n E →
    ∃ M2, fMd_goDown_41 (fMd_goDown_27 (f + 2 * (sS (gTree n E) (gWt n E) (some q) (List.range n) - sS (gTree n E) (gWt n E) (some q) (List.range k)))) fuel (nI r) (nI (gEnt n E q + 1 + sS (gTree n E) (gWt n E) (some q) (List.range k))) (nI q) (-1) (nI k) M = fMd_goDown_27 f (nI r) (nI (gEnt n E q + gWt n E q)) (oI (tP (gTree n E) q)) (nI q) M2 ∧
      (sS (gTree n E) (gWt n E) (some q) (List.range k) ≤ sS (gTree n E) (gWt n E) (some q) (List.range n)) ∧ M2 9 q = nI (gLev n E q) ∧ M2 8 q = M 8 q ∧
      (∀ x, x < n → ((∃ c, k ≤ c ∧ c < n ∧ tP (gTree n E) c = some q ∧ und (gTree n E) c x) → okN M2 n E x) ∧ (¬ x = q → (¬ ∃ c, k ≤ c ∧ c < n ∧ tP (gTree n E) c = some q ∧ und (gTree n E) c x) → sameN M M2 x)) ∧ fr [8, 9] [] M M2 := by
  intro d
  have hn := hW.1.2
  induction d with
  | zero =>
    intro k fuel M hd hkn hf hM
    obtain ⟨fuel, rfl⟩ : ∃ k, fuel = k + 1 := ⟨fuel - 1, by omega⟩
    have hke : k = n := by omega
    subst hke
    have hw := gWt_eq hW q
    have hl := gLev_eq hW hq
    have hfr : fr [8, 9] [] M (zs M 9 q (nI (gLev k E q))) := fr_zs fr_rf rfl
    refine ⟨zs M 9 q (nI (gLev k E q)), ?_, Nat.le_refl _, zs_eq, zs_nc (by decide), fun x hx => ⟨?_, fun hxq _ => ⟨zs_nc (by decide), zs_nk hxq⟩⟩, hfr⟩
    · rw [fMd_goDown_41, if_pos (by rw [hM.1]; exact nI_le (by omega) (by omega)), fMd_goDown_81, if_pos (by decide), wr_ok (show q < 12 by omega) (by decide), Nat.sub_self, show gEnt k E q + 1 + sS (gTree k E) (gWt k E) (some q) (List.range k) = gLev k E q + 1 by omega, nI_dec1, show gEnt k E q + gWt k E q = gLev k E q + 1 by omega]
      show (if ¬ nI q = nI r then rd _ 3 12 (nI q) _ else _) = _
      by_cases hqr : q = r
      · rw [if_neg (fun z => z (by rw [hqr])), hqr, hroot]
        rfl
      · rw [if_pos (fun z => hqr ((nI_eq (show q < 2 ^ 31 by omega) (show r < 2 ^ 31 by omega)).mp z)), rd_ok (show q < 12 by omega) (by decide), zs_nc (by decide), hM.2 q hq]
        rfl
    · rintro ⟨c, h1, h2, _⟩
      omega
  | succ d ih =>
    intro k fuel M hd hkn hf hM
    obtain ⟨fuel, rfl⟩ : ∃ k, fuel = k + 1 := ⟨fuel - 1, by omega⟩
    have hk12 : k < 12 := by omega
    have hkn2 : k < n := by omega
    rw [fMd_goDown_41, if_neg (by rw [hM.1]; exact nI_ge hkn2 (by omega)), if_neg (by decide), rd_ok hk12 (by decide), hM.2 k hkn2]
    by_cases hkid : tP (gTree n E) k = some q
    · have hq1 : oI (tP (gTree n E) k) = nI q := by rw [hkid]; rfl
      rw [if_neg (fun z => z hq1)]
      have hsk := sS_r1 (w := gWt n E) hkid
      have hek := gEnt_kid hW hkn2 hkid
      have hwk := gWt_eq hW k
      obtain ⟨M0, hM0⟩ : ∃ M0, M0 = zs (zs M 8 k (nI (gEnt n E k))) 9 k (nI (gEnt n E k)) := ⟨_, rfl⟩
      have hf0 : fr [8, 9] [] M M0 := by rw [hM0]; exact fr_zs (fr_zs fr_rf rfl) rfl
      have h8 : M0 8 k = nI (gEnt n E k) := by rw [hM0, zs_nc (by decide), zs_eq]
      have hs0 : ∀ x, ¬ x = k → sameN M M0 x := fun x hx => by rw [hM0]; exact ⟨by rw [zs_nc (by decide), zs_nk hx], by rw [zs_nk hx, zs_nc (by decide)]⟩
      have hP0 := hM.kept hf0
      have hnq := und_not hW hq hkn2 hkid
      have hqk : ¬ q = k := fun z => hnq (z ▸ und_self)
      have hle2 : sS (gTree n E) (gWt n E) (some q) (List.range (k + 1)) ≤ sS (gTree n E) (gWt n E) (some q) (List.range n) := by
        obtain ⟨_, _, h, _⟩ := ih (k + 1) fuel M (by omega) (by omega) (by omega) hM
        exact h
      obtain ⟨M1, a1, a2, a3⟩ := hk k hkn2 hkid (f + 2 * (sS (gTree n E) (gWt n E) (some q) (List.range n) - sS (gTree n E) (gWt n E) (some q) (List.range (k + 1))) + 1) M0 hP0 h8
      obtain ⟨M2, b1, b2, b3, b4, b5, b6⟩ := ih (k + 1) FU M1 (by omega) (by omega) (by unfold FU; omega) (hP0.kept a3)
      have hbody : fMd_goDown_81 (fMd_goDown_27 (f + 2 * (sS (gTree n E) (gWt n E) (some q) (List.range n) - sS (gTree n E) (gWt n E) (some q) (List.range k)))) (nI r) (nI (gEnt n E q + 1 + sS (gTree n E) (gWt n E) (some q) (List.range k))) (nI q) (nI k) M = fMd_goDown_27 f (nI r) (nI (gEnt n E q + gWt n E q)) (oI (tP (gTree n E) q)) (nI q) M2 := by
        rw [fMd_goDown_81, if_neg (nI_nlt0 (show k < 2 ^ 31 by omega)), wr_ok hk12 (by decide), wr_ok hk12 (by decide), ← hek, ← hM0, nI_1, show f + 2 * (sS (gTree n E) (gWt n E) (some q) (List.range n) - sS (gTree n E) (gWt n E) (some q) (List.range k)) = f + 2 * (sS (gTree n E) (gWt n E) (some q) (List.range n) - sS (gTree n E) (gWt n E) (some q) (List.range (k + 1))) + 1 + (2 * gWt n E k - 1) by omega, a1, hq1, fMd_goDown_27, if_neg (nI_nlt0 (show q < 2 ^ 31 by omega)), lt_eq, nI_1, show gEnt n E k + gWt n E k = gEnt n E q + 1 + sS (gTree n E) (gWt n E) (some q) (List.range (k + 1)) by omega]
        exact b1
      refine ⟨M2, ?_, by omega, b3, ?_, fun x hx => ⟨?_, fun hxq hno => ?_⟩, fr_tr hf0 (fr_tr a3 b6)⟩
      · obtain ⟨fuel, rfl⟩ : ∃ k, fuel = k + 1 := ⟨fuel - 1, by omega⟩
        rw [nI_1, fMd_goDown_41, hM.1]
        by_cases hlast : n ≤ k + 1
        · rw [if_pos (nI_le hlast (by omega))]
          exact hbody
        · rw [if_neg (nI_ge (by omega) (by omega)), if_pos (nI_ge0 (show k < 2 ^ 31 by omega))]
          exact hbody
      · rw [b4, ((a2 q hq).2 hnq).1, (hs0 q hqk).1]
      · rintro ⟨c, h1, h2, h3, h4⟩
        by_cases hex : ∃ c, k + 1 ≤ c ∧ c < n ∧ tP (gTree n E) c = some q ∧ und (gTree n E) c x
        · exact (b5 x hx).1 hex
        · have hck : c = k := Classical.byContradiction fun z => hex ⟨c, by omega, h2, h3, h4⟩
          rw [hck] at h4
          have hxq : ¬ x = q := fun z => hnq (z ▸ h4)
          have hs := (b5 x hx).2 hxq hex
          have ho := (a2 x hx).1 h4
          exact ⟨hs.1.trans ho.1, hs.2.trans ho.2⟩
      · have hs := (b5 x hx).2 hxq (fun ⟨c, h1, h2⟩ => hno ⟨c, by omega, h2⟩)
        have hnk : ¬ und (gTree n E) k x := fun z => hno ⟨k, Nat.le_refl _, hkn2, hkid, z⟩
        have ho := (a2 x hx).2 hnk
        have h0 := hs0 x (fun z => hnk (z ▸ und_self))
        exact ⟨hs.1.trans (ho.1.trans h0.1), hs.2.trans (ho.2.trans h0.2)⟩
    · have hne : ¬ oI (tP (gTree n E) k) = nI q := by
        intro z
        cases hp : tP (gTree n E) k with
        | none =>
          rw [hp] at z
          exact nI_m1 q (by omega) z.symm
        | some pp =>
          rw [hp] at z
          have := (gTree_par hW hkn2 hp).1
          exact hkid (by rw [hp, (nI_eq (show pp < 2 ^ 31 by omega) (show q < 2 ^ 31 by omega)).mp z])
      rw [if_pos hne, nI_1, ← sS_r0 (w := gWt n E) hkid]
      obtain ⟨M2, b1, b2, b3, b4, b5, b6⟩ := ih (k + 1) fuel M (by omega) (by omega) (by omega) hM
      refine ⟨M2, b1, b2, b3, b4, fun x hx => ⟨?_, fun hxq hno => ?_⟩, b6⟩
      · rintro ⟨c, h1, h2, h3, h4⟩
        have hck : ¬ c = k := fun z => hkid (z ▸ h3)
        exact (b5 x hx).1 ⟨c, by omega, h2, h3, h4⟩
      · exact (b5 x hx).2 hxq (fun ⟨c, h1, h2⟩ => hno ⟨c, by omega, h2⟩)
