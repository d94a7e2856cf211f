/-! PURE: reading, the answers -/
section qaS
variable {n : Nat} {E : List (Nat × Nat)}
def qA (n : Nat) (E : List (Nat × Nat)) (kd a b s : Nat) (r : Int32) : Prop := (kd < 3 → r = rep kd (nmK n E kd a) (nmK n E kd b)) ∧ (kd = 3 → ∃ x : Bool, r = bI x ∧ (x = true ↔ PT n E a b s)) ∧ (kd = 4 → ∃ o, r = oI o ∧ nxt n E a b o)
theorem qA_one (hW : gW n E) {kd a b s : Nat} {r r2 : Int32} (hk : kd < 5) (hb : b < n) (h : qA n E kd a b s r) (h2 : qA n E kd a b s r2) : r = r2 := by
  by_cases k3 : kd < 3
  · rw [h.1 k3, h2.1 k3]
  · by_cases k4 : kd = 3
    · obtain ⟨x, h3, h4⟩ := h.2.1 k4
      obtain ⟨y, h5, h6⟩ := h2.2.1 k4
      have e : x = y := Bool.eq_iff_iff.mpr (h4.trans h6.symm)
      rw [h3, h5, e]
    · obtain ⟨x, h3, h4⟩ := h.2.2 (by omega)
      obtain ⟨y, h5, h6⟩ := h2.2.2 (by omega)
      rw [h3, h5, nxt_one hW hb h4 h6]
theorem lmk_b {m : Nat} (hm : m ≤ 30) : ∀ (l : List Nat) (s : Nat), (∀ v ∈ l, v < m) → s < 2 ^ m → l.foldl (fun s v => s ||| 2 ^ v) s < 2 ^ m ∧ popc (l.foldl (fun s v => s ||| 2 ^ v) s) ≤ popc s + l.length
  | [], s, h, hs => ⟨hs, Nat.le_refl _⟩
  | v :: l, s, h, hs => by
    have hv := h v (List.mem_cons_self ..)
    obtain ⟨h1, h2⟩ := lmk_b hm l (s ||| 2 ^ v) (fun w hw => h w (List.mem_cons_of_mem _ hw)) (or_lt hs (pow_ltk hv))
    refine ⟨h1, ?_⟩
    have h3 := popc_le_or s v (by omega)
    rw [List.foldl_cons, List.length_cons]
    omega
theorem lmk_ok (hW : gW n E) {acc : List Nat} (hv : vOk n E.length acc) (hl : acc.length ≤ 8) : lmk (acc.drop 2) < 2 ^ E.length ∧ popc (lmk (acc.drop 2)) ≤ 6 := by
  have hE := hW.2.1
  obtain ⟨h1, h2⟩ := lmk_b hE (acc.drop 2) 0 (fun v h => by
    obtain ⟨i, hi⟩ := List.mem_iff_getElem?.mp h
    rw [List.getElem?_drop] at hi
    have := hv _ _ hi
    rw [if_pos (by omega)] at this
    exact this) (Nat.two_pow_pos _)
  refine ⟨h1, Nat.le_trans h2 ?_⟩
  have h0 : popc 0 = 0 := by decide
  rw [h0, List.length_drop]
  omega
theorem answer_X {M : zM} (hW : gW n E) (hN : NetX M n E) (hC : CX M n E) (hK : KX M) {kd a b s : Nat} (hk : kd < 5) (ha : a < n) (hb : b < n) (hs : s < 2 ^ 30) (hp : popc s ≤ 6) : ∃ (r : Int32) (M2 : zM), fNN_replyTo (nI kd) (nI a) (nI b) (nI s) M = some (r, M2) ∧ qA n E kd a b s r ∧ CX M2 n E ∧ fq zL M M2 := by
  rw [fNN_replyTo]
  by_cases k4 : kd = 4
  · rw [if_neg (show ¬ ¬ nI kd = 4 from fun z => z (by rw [k4]; rfl))]
    obtain ⟨o, M2, g1, g2, g3, g4⟩ := step_X hW hN hC ha hb
    rw [g1, cl_some]
    exact ⟨_, M2, rfl, ⟨fun z => by omega, fun z => by omega, fun _ => ⟨o, rfl, g2⟩⟩, g3, g4⟩
  · rw [if_pos (show ¬ nI kd = 4 from fun z => k4 ((nI_eq (b := 4) (by omega) (by omega)).mp z))]
    by_cases k3 : kd = 3
    · rw [if_neg (show ¬ ¬ nI kd = 3 from fun z => z (by rw [k3]; rfl))]
      obtain ⟨x, M2, g1, g2, g3, g4⟩ := parts_X hW hN hC ha hb hs hp
      refine ⟨bI x, M2, ?_, ⟨fun z => by omega, fun _ => ⟨x, rfl, g2⟩, fun z => by omega⟩, g3, g4⟩
      rw [g1, cl_some]
      cases x <;> rfl
    · rw [if_pos (show ¬ nI kd = 3 from fun z => k3 ((nI_eq (b := 3) (by omega) (by omega)).mp z)), named_X, cl_some, zin_nI (show kd < 3 by omega) (by decide), bI_t, if_neg (by decide)]
      obtain ⟨M2, g1, g2, g3⟩ := ask_X hW hN hC hK (show kd < 3 by omega) ha hb
      exact ⟨_, M2, g1, ⟨fun _ => rfl, fun z => absurd z k3, fun z => absurd z k4⟩, g2, g3⟩
theorem answer_Y {M : zM} (hW : gW n E) (hN : NetY M n E) {kd a b : Nat} {acc : List Nat} (hk : kd < 5) (ha : acc[0]? = some a) (hb : acc[1]? = some b) (hv : vOk n E.length acc) (hl : acc.length ≤ 8) (hA : nY M acc) : ∃ (r : Int32) (M2 : zM), fMd_answerOf (nI kd) (nI acc.length) M = some (r, M2) ∧ qA n E kd a b (lmk (acc.drop 2)) r ∧ fq zY M M2 := by
  have ha2 : a < n := hv 0 a ha
  have hb2 : b < n := hv 1 b hb
  have x0 : ∀ K : Int32 → Option (Int32 × zM), rd M 28 8 0 K = K (nI a) := fun K => by
    rw [show rd M 28 8 0 K = _ from rd_ok (j := 0) (by decide) (by decide), hA 0 a ha]
  have x1 : ∀ K : Int32 → Option (Int32 × zM), rd M 28 8 1 K = K (nI b) := fun K => by
    rw [show rd M 28 8 1 K = _ from rd_ok (j := 1) (by decide) (by decide), hA 1 b hb]
  obtain ⟨l1, l2⟩ := lmk_ok hW hv hl
  rw [fMd_answerOf]
  by_cases k3 : kd < 3
  · rw [if_neg (show ¬ (3 : Int32) ≤ nI kd from nI_ge (b := 3) k3 (by omega)), x0, x1]
    obtain ⟨M2, g1, g2⟩ := askY_ok hW hN k3 ha2 hb2
    rw [g1, cl_some]
    exact ⟨_, M2, rfl, ⟨fun _ => rfl, fun z => by omega, fun z => by omega⟩, g2⟩
  · rw [if_pos (show (3 : Int32) ≤ nI kd from nI_le (a := 3) (by omega) (by omega))]
    by_cases k4 : kd = 4
    · rw [if_neg (show ¬ ¬ nI kd = 4 from fun z => z (by rw [k4]; rfl)), x0, x1]
      obtain ⟨o, M2, g1, g2, g3⟩ := nextY_ok hW hN ha2 hb2
      rw [g1, cl_some]
      exact ⟨_, M2, rfl, ⟨fun z => by omega, fun z => by omega, fun _ => ⟨o, rfl, g2⟩⟩, g3⟩
    · rw [if_pos (show ¬ nI kd = 4 from fun z => k4 ((nI_eq (b := 4) (by omega) (by omega)).mp z))]
      have hl2 : 2 ≤ acc.length := (List.getElem?_eq_some_iff.mp hb).1
      refine lpE (f := fun fu k (s : Nat) M => fMd_answerOf_50 fu (nI acc.length) (nI s) (nI k) M) (n := acc.length)
        (I := fun k s M' => M' = M ∧ s = lmk ((acc.take k).drop 2) ∧ 2 ≤ k)
        (R := fun o => ∃ (r : Int32) (M2 : zM), o = some (r, M2) ∧ qA n E kd a b (lmk (acc.drop 2)) r ∧ fq zY M M2) ?_ ?_ 2 FU 0 M hl2 (fu_ok (by omega)) ⟨rfl, by rw [List.drop_eq_nil_of_le (by rw [List.length_take]; omega)]; rfl, Nat.le_refl _⟩
      · rintro fu s M' ⟨rfl, rfl, -⟩
        rw [fMd_answerOf_50, if_pos (nI_le (Nat.le_refl _) (by omega)), x0, x1, List.take_length]
        obtain ⟨x, M2, g1, g2, g3⟩ := partedY_ok hW hN ha2 hb2 l1 l2
        rw [g1, cl_some]
        exact ⟨_, M2, rfl, ⟨fun z => by omega, fun _ => ⟨x, rfl, g2⟩, fun z => by omega⟩, g3⟩
      · rintro fu k s M' hk2 ⟨rfl, rfl, h2⟩
        right
        obtain ⟨v, hv2⟩ : ∃ v, acc[k]? = some v := ⟨_, List.getElem?_eq_getElem hk2⟩
        have hvE := hv k v hv2
        have hE := hW.2.1
        rw [if_pos h2] at hvE
        have e : acc.take (k + 1) = acc.take k ++ [v] := by
          rw [List.take_add_one, hv2]
          rfl
        have e2 : (acc.take k ++ [v]).drop 2 = (acc.take k).drop 2 ++ [v] := drop_push.1 (by rw [List.length_take]; omega)
        refine ⟨lmk ((acc.take k).drop 2) ||| 2 ^ v, M', ?_, rfl, by rw [e, e2, lmk_push], by omega⟩
        rw [fMd_answerOf_50, if_neg (nI_ge hk2 (by omega)), rd_ok (show k < 8 by omega) (by decide), hA k v hv2, lt_eq, zshl_pow (by omega), fa_or, nI_1]
end qaS
