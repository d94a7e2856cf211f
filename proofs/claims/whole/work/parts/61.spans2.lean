/-! PURE: findSpans, to its end -/
theorem map_fup_no {w : Nat → Nat} {p0 a : Nat} : ∀ {l : List Nat}, ¬ p0 ∈ l → l.map (fup w p0 a) = l.map w
  | [], _ => rfl
  | q :: l, h => by
    rw [List.map_cons, List.map_cons, map_fup_no (fun z => h (List.mem_cons_of_mem _ z)), fup_ne (show ¬ q = p0 from fun z => h (by rw [z]; exact List.mem_cons_self))]
theorem sum_fup {w : Nat → Nat} {p0 a : Nat} : ∀ {l : List Nat}, l.Nodup → p0 ∈ l → (l.map (fup w p0 (w p0 + a))).sum = (l.map w).sum + a
  | [], _, h => (by cases h)
  | q :: l, hnd, h => by
    have hnd2 := List.nodup_cons.mp hnd
    rw [List.map_cons, List.map_cons, List.sum_cons, List.sum_cons]
    by_cases hq : q = p0
    · rw [hq, fup_eq, map_fup_no (hq ▸ hnd2.1)]
      omega
    · rw [fup_ne hq, sum_fup hnd2.2 (by
        rcases List.mem_cons.mp h with h1 | h1
        · exact absurd h1.symm hq
        · exact h1)]
      omega
theorem wUp_le {T : tT} (hnd : (tO T).Nodup) (hH : tH T) {N : Nat} : ∀ (i : Nat) (w : Nat → Nat), i ≤ (tO T).length → (((tO T).take i).map w).sum ≤ N → (∀ (j x : Nat), i ≤ j → (tO T)[j]? = some x → w x ≤ N) → ∀ (j x : Nat), (tO T)[j]? = some x → wUp T i w x ≤ N
  | 0, w, _, _, h => fun j x hx => h j x (Nat.zero_le _) hx
  | i + 1, w, hi, hs, h => by
    rw [wUp]
    have hq := getD_of (show i < (tO T).length by omega)
    generalize (tO T).getD i 0 = q at *
    have htk : (tO T).take (i + 1) = (tO T).take i ++ [q] := by
      rw [List.take_add_one, hq]
      rfl
    rw [htk, List.map_append, List.sum_append] at hs
    have hs1 : ([q].map w).sum = w q := by simp
    rw [hs1] at hs
    have hge : ∀ j x, i ≤ j → (tO T)[j]? = some x → w x ≤ N := fun j x hj hx => by
      by_cases hji : j = i
      · rw [hji] at hx
        have : x = q := Option.some.inj (hx.symm.trans hq)
        rw [this]
        omega
      · exact h j x (by omega) hx
    cases ho : tP T q with
    | none => exact wUp_le hnd hH i w (by omega) (by omega) hge
    | some p0 =>
      obtain ⟨ip, hip, hipp⟩ := hH i q p0 hq ho
      refine wUp_le hnd hH i (fup w p0 (w p0 + w q)) (by omega) ?_ (fun j x hj hx => ?_)
      · rw [sum_fup (List.Nodup.sublist (List.take_sublist i _) hnd) (List.mem_of_getElem? (i := ip) (by rw [List.getElem?_take, if_pos hip]; exact hipp))]
        exact hs
      · rw [fup_ne (fun z => by
          have := nd_ix hnd (z ▸ hx) hipp
          omega)]
        exact hge j x hj hx
theorem gWt_le {n : Nat} {E : List (Nat × Nat)} (hW : gW n E) {q : Nat} (hq : q < n) : gWt n E q ≤ n := by
  have hT := gTree_W hW
  obtain ⟨j, hj⟩ := List.getElem?_of_mem (gTree_mem (E := E) hq)
  have hlen := gTree_len hW
  refine wUp_le hT.1 (gTree_M hW).2 (tO (gTree n E)).length (fun _ => 1) (Nat.le_refl _) ?_ (fun _ _ _ _ => by omega) j q hj
  rw [List.take_length, List.map_const', List.sum_replicate_nat]
  omega
theorem dn_ok {n : Nat} {E : List (Nat × Nat)} (hW : gW n E) {r : Nat} (hr : r < n) (hroot : tP (gTree n E) r = none) : ∀ (h q : Nat), q < n → tD (gTree n E) q + h = 12 → dnOk n E r q := by
  intro h
  have hn := hW.1.2
  have hlen := gTree_len hW
  induction h with
  | zero =>
    intro q hq hd
    have := (gTree_C n E q (gTree_mem hq)).1
    omega
  | succ h ih =>
    intro q hq hd f M hM h8
    have hwq := gWt_eq hW q
    obtain ⟨M2, a1, a2, a3, a4, a5, a6⟩ := kids_Y hW (f := f) hr hq hroot (fun c hc hcp => ih c hc (by have := (gTree_par hW hc hcp).2; omega)) n 0 FU M (by omega) (by omega) (by unfold FU; omega) hM
    refine ⟨M2, ?_, fun x hx => ⟨fun hu => ?_, fun hu => ?_⟩, a6⟩
    · have hz : sS (gTree n E) (gWt n E) (some q) (List.range 0) = 0 := rfl
      rw [hz, Nat.sub_zero, Nat.add_zero] at a1
      rw [show f + (2 * gWt n E q - 1) = f + 2 * sS (gTree n E) (gWt n E) (some q) (List.range n) + 1 by omega, fMd_goDown_27, if_neg (nI_nlt0 (show q < 2 ^ 31 by omega)), lt_eq, show (-1 : Int32) + 1 = nI 0 from by decide]
      exact a1
    · by_cases hxq : x = q
      · rw [hxq]
        exact ⟨a4.trans h8, a3⟩
      · rcases und_cases hu with h1 | ⟨c, h1, j, h2⟩
        · exact absurd h1 hxq
        · exact (a5 x hx).1 ⟨c, Nat.zero_le _, (und_deep hW j x c hx h2).1, h1, j, h2⟩
    · refine (a5 x hx).2 (fun z => hu (z ▸ und_self)) ?_
      rintro ⟨c, _, _, h1, h2⟩
      exact hu (und_kid h1 h2)
theorem goDown_ok {n : Nat} {E : List (Nat × Nat)} (hW : gW n E) {r : Nat} (hr : r < n) (hroot : tP (gTree n E) r = none) {M : zM} (hM : parY M n E) :
    ∃ M2, fMd_goDown (nI r) (nI (gEnt n E r)) M = some (nI (gEnt n E r + gWt n E r), M2) ∧ (∀ x, x < n → (und (gTree n E) r x → okN M2 n E x) ∧ (¬ und (gTree n E) r x → sameN M M2 x)) ∧ fr [8, 9] [] M M2 := by
  have hn := hW.1.2
  have hlen := gTree_len hW
  have hwl := gWt_le hW hr
  have hwq := gWt_eq hW r
  have hdp := (gTree_C n E r (gTree_mem hr)).1
  obtain ⟨M0, hM0⟩ : ∃ M0, M0 = zs (zs M 8 r (nI (gEnt n E r))) 9 r (nI (gEnt n E r)) := ⟨_, rfl⟩
  have hf0 : fr [8, 9] [] M M0 := by rw [hM0]; exact fr_zs (fr_zs fr_rf rfl) rfl
  have h8 : M0 8 r = nI (gEnt n E r) := by rw [hM0, zs_nc (by decide), zs_eq]
  have hs0 : ∀ x, ¬ x = r → sameN M M0 x := fun x hx => by rw [hM0]; exact ⟨by rw [zs_nc (by decide), zs_nk hx], by rw [zs_nk hx, zs_nc (by decide)]⟩
  obtain ⟨M2, a1, a2, a3⟩ := dn_ok hW hr hroot (12 - tD (gTree n E) r) r hr (by omega) (FU - (2 * gWt n E r - 1) - 1 + 1) M0 (hM.kept hf0) h8
  refine ⟨M2, ?_, fun x hx => ⟨(a2 x hx).1, fun hu => ?_⟩, fr_tr hf0 a3⟩
  · rw [fMd_goDown, wr_ok (show r < 12 by omega) (by decide), wr_ok (show r < 12 by omega) (by decide), ← hM0, nI_1]
    have hfu : FU - (2 * gWt n E r - 1) - 1 + 1 + (2 * gWt n E r - 1) = FU := by
      unfold FU
      omega
    rw [hfu] at a1
    rw [a1, fMd_goDown_27, hroot, if_pos (show oI none < 0 by decide)]
  · have h1 := (a2 x hx).2 hu
    have h2 := hs0 x (fun z => hu (z ▸ und_self))
    exact ⟨h1.1.trans h2.1, h1.2.trans h2.2⟩
theorem spans_loop {n : Nat} {E : List (Nat × Nat)} (hW : gW n E) : ∀ (d k fuel : Nat) (M : zM), n - k = d → k ≤ n → d < fuel → parY M n E → (∀ x, x < n → (∃ r, r < k ∧ tP (gTree n E) r = none ∧ und (gTree n E) r x) → okN M n E x) →
    ∃ M2, fMd_findSpans_4 fuel (nI (sS (gTree n E) (gWt n E) none (List.range k))) (nI k) M = some ((), M2) ∧ (∀ x, x < n → okN M2 n E x) ∧ fr [8, 9] [] M M2 := by
  intro d
  have hn := hW.1.2
  induction d with
  | zero =>
    intro k fuel M hd hk hf hM hok
    obtain ⟨fuel, rfl⟩ : ∃ k, fuel = k + 1 := ⟨fuel - 1, by omega⟩
    refine ⟨M, ?_, fun x hx => ?_, fr_rf⟩
    · rw [fMd_findSpans_4, if_pos (by rw [hM.1]; exact nI_le (by omega) (by omega))]
    · obtain ⟨r, h1, h2, h3⟩ := und_root hW _ x hx rfl
      exact hok x hx ⟨r, by omega, h2, h3⟩
  | succ d ih =>
    intro k fuel M hd hk hf hM hok
    obtain ⟨fuel, rfl⟩ : ∃ k, fuel = k + 1 := ⟨fuel - 1, by omega⟩
    have hkn : k < n := by omega
    rw [fMd_findSpans_4, if_neg (by rw [hM.1]; exact nI_ge hkn (by omega)), rd_ok (show k < 12 by omega) (by decide), hM.2 k hkn]
    cases hp : tP (gTree n E) k with
    | some pp =>
      have hpn := (gTree_par hW hkn hp).1
      show ∃ M2, (if (0 : Int32) ≤ nI pp then _ else _) = _ ∧ _
      rw [if_pos (nI_ge0 (show pp < 2 ^ 31 by omega)), nI_1, ← sS_r0 (w := gWt n E) (k := k) (o := none) (by rw [hp]; exact fun z => by cases z)]
      refine ih (k + 1) fuel M (by omega) (by omega) (by omega) hM (fun x hx => ?_)
      rintro ⟨r, h1, h2, h3⟩
      have hrk : ¬ r = k := fun z => by rw [z, hp] at h2; cases h2
      exact hok x hx ⟨r, by omega, h2, h3⟩
    | none =>
      show ∃ M2, (if (0 : Int32) ≤ -1 then _ else _) = _ ∧ _
      rw [if_neg (by decide)]
      obtain ⟨M1, a1, a2, a3⟩ := goDown_ok hW hkn hp hM
      have hek := gEnt_root hW hkn hp
      obtain ⟨M2, b1, b2, b3⟩ := ih (k + 1) fuel M1 (by omega) (by omega) (by omega) (hM.kept a3) (fun x hx => by
        rintro ⟨r, h1, h2, h3⟩
        by_cases hu : und (gTree n E) k x
        · exact (a2 x hx).1 hu
        · have hs := (a2 x hx).2 hu
          have hrk : ¬ r = k := fun z => hu (z ▸ h3)
          have ho := hok x hx ⟨r, by omega, h2, h3⟩
          exact ⟨hs.1.trans ho.1, hs.2.trans ho.2⟩)
      refine ⟨M2, ?_, b2, fr_tr a3 b3⟩
      rw [← hek, a1, cl_some, nI_1, hek, ← sS_r1 (w := gWt n E) hp]
      exact b1
theorem findSpans_ok {n : Nat} {E : List (Nat × Nat)} (hW : gW n E) {M : zM} (hM : parY M n E) :
    ∃ M2, fMd_findSpans M = some ((), M2) ∧ (∀ x, x < n → okN M2 n E x) ∧ fr [8, 9] [] M M2 := by
  have hn := hW.1.2
  obtain ⟨M2, h1, h2⟩ := spans_loop hW n 0 FU M (by omega) (by omega) (by unfold FU; omega) hM (fun x hx => by
    rintro ⟨r, hr, _⟩
    omega)
  refine ⟨M2, ?_, h2⟩
  rw [show sS (gTree n E) (gWt n E) none (List.range 0) = 0 from rfl, nI_0] at h1
  rw [fMd_findSpans]
  exact h1
