/-! PURE: one root is one net of ways -/
theorem tIn_pre {E : List (Nat × Nat)} {pp rr0 : Nat} : ∀ (qs : List Nat) (TT : tT), ∃ s, tO (tIn E pp rr0 qs TT) = tO TT ++ s
  | [], TT => ⟨[], by rw [tIn, List.append_nil]⟩
  | q :: qs, TT => by
    rw [tIn]
    by_cases hc : gA E pp q = true ∧ ¬ q ∈ tO TT
    · rw [if_pos hc]
      obtain ⟨s, hs⟩ := tIn_pre qs (tAdd E pp rr0 q TT)
      exact ⟨[q] ++ s, by rw [hs, ← List.append_assoc]; rfl⟩
    · rw [if_neg hc]
      exact tIn_pre qs TT
def tClo (E : List (Nat × Nat)) (TT : tT) : Prop := ∀ x ∈ tO TT, ∀ y, gA E x y = true → y ∈ tO TT
def tSam (E : List (Nat × Nat)) (TT : tT) : Prop := ∀ x ∈ tO TT, ∀ y ∈ tO TT, gA E x y = true → tR TT x = tR TT y
theorem tOut_cl {n : Nat} {E : List (Nat × Nat)} (hW : gW n E) {rr0 : Nat} : ∀ (d i : Nat) (TT : tT), 12 - i = d → tW n TT → (∀ j x : Nat, j < i → (tO TT)[j]? = some x → ∀ y, gA E x y = true → y ∈ tO TT) → tClo E (tOut E n rr0 d i TT) := by
  have hn := hW.1.2
  intro d
  induction d with
  | zero =>
    intro i TT hd hT h x hx y hy
    have hl := hT.len
    obtain ⟨j, hj⟩ := List.mem_iff_getElem?.mp (show x ∈ tO TT from hx)
    have hjl : j < (tO TT).length := (List.getElem?_eq_some_iff.mp hj).1
    exact h j x (by omega) hj y hy
  | succ d ih =>
    intro i TT hd hT h
    rw [tOut]
    by_cases hil : i < (tO TT).length
    · rw [if_pos hil]
      have hp := getD_of hil
      generalize (tO TT).getD i 0 = pp at hp
      obtain ⟨s, hs⟩ := tIn_pre (E := E) (pp := pp) (rr0 := rr0) (List.range' 0 n) TT
      refine ih (i + 1) _ (by omega) (tIn_W hW _ TT (fun x hx => range'_lt hx (by omega)) hT) (fun j x hj hjx y hy => ?_)
      rw [hs, List.getElem?_append_left (by omega)] at hjx
      by_cases hji : j = i
      · rw [hji, hp] at hjx
        rw [← Option.some.inj hjx] at hy
        exact tIn_all _ _ (List.mem_range'_1.mpr (by have := (gA_lt hW hy).2.1; omega)) hy
      · rw [hs]
        exact List.mem_append_left _ (h j x (by omega) hjx y hy)
    · rw [if_neg hil]
      intro x hx y hy
      obtain ⟨j, hj⟩ := List.mem_iff_getElem?.mp hx
      have hjl : j < (tO TT).length := (List.getElem?_eq_some_iff.mp hj).1
      exact h j x (by omega) hj y hy
theorem tAll_S {n : Nat} {E : List (Nat × Nat)} (hW : gW n E) : ∀ (rs : List Nat) (TT : tT), (∀ x ∈ rs, x < n) → tC E TT → tW n TT → tClo E TT → tSam E TT → tSam E (tAll E n rs TT)
  | [], TT, _, _, _, _, hS => hS
  | rr0 :: rs, TT, hr, hC, hT, hK, hS => by
    rw [tAll]
    by_cases hm : rr0 ∈ tO TT
    · rw [if_pos hm]
      exact tAll_S hW rs TT (fun x hx => hr x (List.mem_cons_of_mem _ hx)) hC hT hK hS
    · rw [if_neg hm]
      have hC1 := tC_new hC hm
      have hT1 := tW_new hT (hr rr0 List.mem_cons_self) hm
      obtain ⟨hC2, hE2⟩ := tOut_C (E := E) (n := n) (r := rr0) (b := (tO TT).length) (12 - (tO TT).length) (tO TT).length (tNew rr0 TT) hC1 (Nat.le_refl _) (fun j q hj hq => by
        rcases app_get hq with ⟨g1, -⟩ | ⟨g1, g2⟩
        · omega
        · rw [g2]
          exact fup_eq)
      have hT2 := tOut_W hW (r := rr0) (12 - (tO TT).length) (tO TT).length (tNew rr0 TT) hT1
      have hK2 : tClo E (tOut E n rr0 (12 - (tO TT).length) (tO TT).length (tNew rr0 TT)) := tOut_cl hW _ _ _ rfl hT1 (fun j x hj hjx y hy => by
        rcases app_get hjx with ⟨-, g2⟩ | ⟨g1, -⟩
        · exact mem_app1.mpr (Or.inl (hK x (List.mem_of_getElem? g2) y hy))
        · omega)
      have hE3 := tE_tr (tE_new hm) hE2
      refine tAll_S hW rs _ (fun x hx => hr x (List.mem_cons_of_mem _ hx)) hC2 hT2 hK2 ?_
      obtain ⟨s, s1, s2, s3, s4⟩ := hE3
      intro x hx y hy hg
      rw [s1] at hx hy
      rcases List.mem_append.mp hx with x1 | x1
      · have hyo := hK x x1 y hg
        rw [(s4 x x1).2.1, (s4 y hyo).2.1]
        exact hS x x1 y hyo hg
      · rcases List.mem_append.mp hy with y1 | y1
        · have hxo := hK y y1 x (by rw [gA_comm]; exact hg)
          exact absurd hxo (s2 x x1)
        · rw [s3 x x1, s3 y y1]
theorem tR_edge {n : Nat} {E : List (Nat × Nat)} (hW : gW n E) {x y : Nat} (h : gA E x y = true) : tR (gTree n E) x = tR (gTree n E) y := by
  obtain ⟨hx, hy, -⟩ := gA_lt hW h
  exact tAll_S hW _ tZero (fun r hr => range'_lt hr (by omega)) (fun q hq => (by cases hq)) (tW_zero n) (fun q hq => (by cases hq)) (fun q hq => (by cases hq)) x (gTree_mem hx) y (gTree_mem hy) h
theorem tR_walk {n : Nat} {E : List (Nat × Nat)} (hW : gW n E) {u : Nat} : ∀ (k v : Nat), wlk E k u v → tR (gTree n E) u = tR (gTree n E) v
  | 0, v, h => by rw [show u = v from h]
  | k + 1, v, h => by
    obtain ⟨x, x1, x2⟩ := h
    rw [tR_walk hW k x x1, tR_edge hW x2]
theorem walk_root {n : Nat} {E : List (Nat × Nat)} (hW : gW n E) : ∀ (d x : Nat), x < n → tD (gTree n E) x = d → ∃ k, wlk E k (tR (gTree n E) x) x := by
  intro d
  induction d with
  | zero =>
    intro x hx hd
    rcases gTree_node hW hx with h3 | ⟨p, hp, p1, p2, p3, p4, p5, p6⟩
    · exact ⟨0, h3.2.2.2.1⟩
    · omega
  | succ d ih =>
    intro x hx hd
    rcases gTree_node hW hx with h3 | ⟨p, hp, p1, p2, p3, p4, p5, p6⟩
    · omega
    · obtain ⟨k, hk⟩ := ih p hp (by omega)
      rw [p5]
      exact ⟨k + 1, p, hk, p2⟩
theorem conn_iff {n : Nat} {E : List (Nat × Nat)} (hW : gW n E) {a b : Nat} (ha : a < n) (hb : b < n) : tR (gTree n E) a = tR (gTree n E) b ↔ ∃ k, wlk E k a b := by
  constructor
  · intro h
    obtain ⟨k, hk⟩ := walk_root hW _ a ha rfl
    obtain ⟨j, hj⟩ := walk_root hW _ b hb rfl
    rw [← h] at hj
    exact ⟨k + j, wlk_add (v := b) j (wlk_sym _ _ _ hk) b hj⟩
  · rintro ⟨k, hk⟩
    exact tR_walk hW k b hk
/-- the length of a parcel's way isn't 0 between two posts -/
theorem gLen_pos {n : Nat} {E : List (Nat × Nat)} (hW : gW n E) {a b L : Nat} (ha : a < n) (hb : b < n) (hab : ¬ a = b) (h : gLen n E a b = some L) : 0 < L := by
  unfold gLen at h
  by_cases hr : tR (gTree n E) a = tR (gTree n E) b
  · rw [if_pos hr] at h
    rw [← Option.some.inj h]
    rcases Nat.eq_zero_or_pos (popc (tA (gTree n E) a ^^^ tA (gTree n E) b)) with z | z
    · exfalso
      by_cases c3 : und (gTree n E) a b
      · obtain ⟨c, g1, g2, g3⟩ := kid_ex hW hb hab c3
        have := step_down hW g1 hb g2 g3
        omega
      · cases hp : tP (gTree n E) a with
        | none =>
          rcases gTree_node hW ha with h3 | ⟨p, hp2, p1, -⟩
          · apply c3
            have := root_und hW _ b hb rfl
            rw [← hr, h3.2.2.2.1] at this
            exact this
          · rw [hp] at p1
            cases p1
        | some p =>
          have := step_up hW ha hb hp c3
          omega
    · exact z
  · rw [if_neg hr] at h
    cases h
theorem gLen_dst {n : Nat} {E : List (Nat × Nat)} (hW : gW n E) {a b L : Nat} (ha : a < n) (hb : b < n) (h : gLen n E a b = some L) : ∃ d, isD E a b d ∧ gDst n E a b = d ∧ farO (psF n E n a) (psF n E n b) = some d := by
  unfold gLen at h
  by_cases hr : tR (gTree n E) a = tR (gTree n E) b
  · obtain ⟨k, hk⟩ := (conn_iff hW ha hb).mp hr
    obtain ⟨d, -, hd⟩ := isD_ex hk
    have hf := far_exact hW ha hb hd
    exact ⟨d, hd, by unfold gDst; rw [hf]; rfl, hf⟩
  · rw [if_neg hr] at h
    cases h
