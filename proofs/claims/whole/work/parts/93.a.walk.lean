/-! PURE: walks, and going out -/
def wlk (E : List (Nat × Nat)) : Nat → Nat → Nat → Prop
  | 0, u, v => u = v
  | k + 1, u, v => ∃ x, wlk E k u x ∧ gA E x v = true
def isD (E : List (Nat × Nat)) (u v k : Nat) : Prop := wlk E k u v ∧ ∀ j, j < k → ¬ wlk E j u v
theorem wlk_add {E : List (Nat × Nat)} {a u x v : Nat} : ∀ (b : Nat), wlk E a u x → ∀ v, wlk E b x v → wlk E (a + b) u v := by
  intro b
  induction b with
  | zero =>
    intro h v h2
    have : x = v := h2
    rw [← this]
    exact h
  | succ b ih =>
    intro h v h2
    obtain ⟨y, y1, y2⟩ := h2
    exact ⟨y, ih h y y1, y2⟩
theorem wlk_1 {E : List (Nat × Nat)} {u v : Nat} (h : gA E u v = true) : wlk E 1 u v := ⟨u, rfl, h⟩
theorem wlk_sym {E : List (Nat × Nat)} : ∀ (k u v : Nat), wlk E k u v → wlk E k v u
  | 0, u, v, h => (show u = v from h).symm
  | k + 1, u, v, h => by
    obtain ⟨x, x1, x2⟩ := h
    have h1 := wlk_sym k u x x1
    have h2 := wlk_add (a := 1) (u := v) (x := x) (v := u) k (wlk_1 (by rw [gA_comm]; exact x2)) u h1
    rw [Nat.add_comm] at h2
    exact h2
theorem wlk_lt {n : Nat} {E : List (Nat × Nat)} (hW : gW n E) {u : Nat} (hu : u < n) : ∀ (k v : Nat), wlk E k u v → v < n
  | 0, v, h => by
    have : u = v := h
    omega
  | k + 1, v, h => by
    obtain ⟨x, -, x2⟩ := h
    exact (gA_lt hW x2).2.1
theorem isD_one {E : List (Nat × Nat)} {u v k j : Nat} (h : isD E u v k) (h2 : isD E u v j) : k = j := by
  rcases Nat.lt_trichotomy k j with z | z | z
  · exact absurd h.1 (h2.2 k z)
  · exact z
  · exact absurd h2.1 (h.2 j z)
theorem isD_ex {E : List (Nat × Nat)} {u v k : Nat} (h : wlk E k u v) : ∃ d, d ≤ k ∧ isD E u v d := by
  obtain ⟨d, d1, d2⟩ := pk_least (fun j => wlk E j u v) ⟨k, h⟩
  refine ⟨d, ?_, d1, d2⟩
  rcases Nat.lt_or_ge k d with z | z
  · exact absurd h (d2 k z)
  · exact z
theorem isD_sym {E : List (Nat × Nat)} {u v k : Nat} (h : isD E u v k) : isD E v u k := ⟨wlk_sym _ _ _ h.1, fun j hj hw => h.2 j hj (wlk_sym _ _ _ hw)⟩
/-- the state while going out from h, at the post p -/
def bV (E : List (Nat × Nat)) (h : Nat) (S : bS) (p : Nat) : Prop := (∀ q ∈ S.1, wlk E (S.2 q) h q) ∧ (∀ i j x y : Nat, i ≤ j → S.1[i]? = some x → S.1[j]? = some y → S.2 x ≤ S.2 y) ∧ ∀ q ∈ S.1, S.2 q ≤ S.2 p + 1
theorem bV_add {E : List (Nat × Nat)} {h p q : Nat} {S : bS} (hV : bV E h S p) (hp : p ∈ S.1) (hno : ¬ q ∈ S.1) (hg : gA E p q = true) : bV E h (bAdd p q S) p := by
  have hE := bE_add (p := p) hno
  have hq : (bAdd p q S).2 q = S.2 p + 1 := fup_eq
  have hpp : (bAdd p q S).2 p = S.2 p := hE.2 p hp
  refine ⟨fun x hx => ?_, fun i j x y hij hi hj => ?_, fun x hx => ?_⟩
  · rcases mem_app1.mp hx with z | z
    · rw [hE.2 x z]
      exact hV.1 x z
    · rw [z, hq]
      exact ⟨p, hV.1 p hp, hg⟩
  · rcases app_get hj with ⟨b1, b2⟩ | ⟨b1, b2⟩
    · rcases app_get hi with ⟨a1, a2⟩ | ⟨a1, a2⟩
      · rw [hE.2 x (List.mem_of_getElem? a2), hE.2 y (List.mem_of_getElem? b2)]
        exact hV.2.1 i j x y hij a2 b2
      · omega
    · rw [b2, hq]
      rcases app_get hi with ⟨a1, a2⟩ | ⟨a1, a2⟩
      · rw [hE.2 x (List.mem_of_getElem? a2)]
        exact hV.2.2 x (List.mem_of_getElem? a2)
      · rw [a2, hq]
        exact Nat.le_refl _
  · rw [hpp]
    rcases mem_app1.mp hx with z | z
    · rw [hE.2 x z]
      exact hV.2.2 x z
    · rw [z, hq]
      exact Nat.le_refl _
theorem bIn_V {n : Nat} {E : List (Nat × Nat)} {h i p : Nat} : ∀ (qs : List Nat) (S : bS), (∀ q ∈ qs, q < n) → bW n S → S.1[i]? = some p → bV E h S p → bV E h (bIn E p qs S) p ∧ ∀ q, (q ∈ S.1 ∨ (q ∈ qs ∧ gA E p q = true)) → q ∈ (bIn E p qs S).1
  | [], S, _, _, _, hV => ⟨hV, fun q hq => by
      rcases hq with z | z
      · exact z
      · cases z.1⟩
  | q :: qs, S, hq, hW, hp, hV => by
    rw [bIn]
    by_cases hc : gA E p q = true ∧ ¬ q ∈ S.1
    · rw [if_pos hc]
      have h1 := bIn_V (h := h) qs (bAdd p q S) (fun x hx => hq x (List.mem_cons_of_mem _ hx)) (bW_add hW hp (hq q List.mem_cons_self) hc.2) (bE_get (bE_add hc.2) hp) (bV_add hV (List.mem_of_getElem? hp) hc.2 hc.1)
      refine ⟨h1.1, fun x hx => h1.2 x ?_⟩
      rcases hx with z | ⟨z1, z2⟩
      · exact Or.inl (mem_app1.mpr (Or.inl z))
      · rcases List.mem_cons.mp z1 with y | y
        · exact Or.inl (mem_app1.mpr (Or.inr y))
        · exact Or.inr ⟨y, z2⟩
    · rw [if_neg hc]
      have h1 := bIn_V (h := h) qs S (fun x hx => hq x (List.mem_cons_of_mem _ hx)) hW hp hV
      refine ⟨h1.1, fun x hx => h1.2 x ?_⟩
      rcases hx with z | ⟨z1, z2⟩
      · exact Or.inl z
      · rcases List.mem_cons.mp z1 with y | y
        · rw [y] at z2 ⊢
          exact Or.inl (Classical.byContradiction fun w => hc ⟨z2, w⟩)
        · exact Or.inr ⟨y, z2⟩
/-- what holds at the end -/
def bZ (E : List (Nat × Nat)) (h : Nat) (pr : Nat → Nat → Bool) (S : bS) : Prop := h ∈ S.1 ∧ S.2 h = 0 ∧ (∀ q ∈ S.1, wlk E (S.2 q) h q) ∧ ∀ p ∈ S.1, pr p (S.2 p) = false → ∀ q, gA E p q = true → q ∈ S.1 ∧ S.2 q ≤ S.2 p + 1
theorem bOut_Z {n : Nat} {E : List (Nat × Nat)} (hW : gW n E) {h : Nat} {pr : Nat → Nat → Bool} : ∀ (d i : Nat) (S : bS), 12 - i = d → i ≤ S.1.length → bW n S → h ∈ S.1 → S.2 h = 0 → (∀ q ∈ S.1, wlk E (S.2 q) h q) → (∀ i j x y : Nat, i ≤ j → S.1[i]? = some x → S.1[j]? = some y → S.2 x ≤ S.2 y) → (∀ p q, S.1[i]? = some p → q ∈ S.1 → S.2 q ≤ S.2 p + 1) → (∀ j p, j < i → S.1[j]? = some p → pr p (S.2 p) = false → ∀ q, gA E p q = true → q ∈ S.1 ∧ S.2 q ≤ S.2 p + 1) → bZ E h pr (bOut E n pr d i S) := by
  have hn := hW.1.2
  intro d
  induction d with
  | zero =>
    intro i S hd hi hS h1 h2 h3 h4 h5 h6
    have hl := hS.len
    refine ⟨h1, h2, h3, fun p hp => ?_⟩
    obtain ⟨j, hj⟩ := List.mem_iff_getElem?.mp (show p ∈ S.1 from hp)
    have : j < S.1.length := (List.getElem?_eq_some_iff.mp hj).1
    exact h6 j p (by omega) hj
  | succ d ih =>
    intro i S hd hi hS h1 h2 h3 h4 h5 h6
    rw [bOut]
    by_cases hil : i < S.1.length
    · rw [if_pos hil]
      have hp := getD_of hil
      generalize S.1.getD i 0 = p at hp
      by_cases hpr : pr p (S.2 p) = true
      · rw [if_pos hpr]
        refine ih (i + 1) S (by omega) (by omega) hS h1 h2 h3 h4 (fun p2 q hp2 hq => ?_) (fun j p2 hj hp2 hpr2 => ?_)
        · have a1 := h5 p q hp hq
          have a2 := h4 i (i + 1) p p2 (by omega) hp hp2
          omega
        · by_cases hji : j = i
          · rw [hji, hp] at hp2
            cases Option.some.inj hp2
            rw [hpr] at hpr2
            cases hpr2
          · exact h6 j p2 (by omega) hp2 hpr2
      · rw [if_neg hpr]
        obtain ⟨w1, w2⟩ := bIn_W (E := E) (List.range' 0 n) S (fun x hx => range'_lt hx (by omega)) hS hp
        obtain ⟨v1, v2⟩ := bIn_V (E := E) (h := h) (List.range' 0 n) S (fun x hx => range'_lt hx (by omega)) hS hp ⟨h3, h4, fun q hq => h5 p q hp hq⟩
        have hl2 : S.1.length ≤ (bIn E p (List.range' 0 n) S).1.length := by
          obtain ⟨⟨s, hs⟩, -⟩ := w2
          rw [hs, List.length_append]
          omega
        have hpm := List.mem_of_getElem? hp
        refine ih (i + 1) _ (by omega) (by omega) w1 (v2 h (Or.inl h1)) (by rw [w2.2 h h1]; exact h2) v1.1 v1.2.1 (fun p2 q hp2 hq => ?_) (fun j p2 hj hp2 hpr2 q hq => ?_)
        · have a1 := v1.2.2 q hq
          have a2 := v1.2.1 i (i + 1) p p2 (by omega) (bE_get w2 hp) hp2
          omega
        · by_cases hji : j = i
          · rw [hji, bE_get w2 hp] at hp2
            cases Option.some.inj hp2
            have hqm := v2 q (Or.inr ⟨List.mem_range'_1.mpr (by have := (gA_lt hW hq).2.1; omega), hq⟩)
            exact ⟨hqm, v1.2.2 q hqm⟩
          · have hjl : j < S.1.length := by omega
            obtain ⟨p3, hp3⟩ : ∃ p3, S.1[j]? = some p3 := ⟨_, List.getElem?_eq_getElem hjl⟩
            rw [bE_get w2 hp3] at hp2
            have hpe : p3 = p2 := Option.some.inj hp2
            rw [hpe] at hp3
            have hp3m := List.mem_of_getElem? hp3
            rw [w2.2 p2 hp3m] at hpr2 ⊢
            obtain ⟨c1, c2⟩ := h6 j p2 (by omega) hp3 hpr2 q hq
            rw [w2.2 q c1]
            exact ⟨v2 q (Or.inl c1), c2⟩
    · rw [if_neg hil]
      refine ⟨h1, h2, h3, fun p hp => ?_⟩
      obtain ⟨j, hj⟩ := List.mem_iff_getElem?.mp hp
      have := (List.getElem?_eq_some_iff.mp hj).1
      exact h6 j p (by omega) hj
theorem bfs_Z {n : Nat} {E : List (Nat × Nat)} (hW : gW n E) {h : Nat} (hh : h < n) (pr : Nat → Nat → Bool) : bZ E h pr (bfs E n pr h) := by
  refine bOut_Z hW 12 0 ([h], fun _ => 0) rfl (Nat.zero_le _) (bW_one hh) (by simp) rfl (fun q hq => ?_) (fun i j x y _ _ _ => Nat.le_refl _) (fun p q _ _ => Nat.zero_le _) (fun j p hj => by omega)
  have : q = h := by simpa using hq
  rw [this]
  exact rfl
/-- nothing is passed over: all is reached, at its distance -/
theorem bfs_all {n : Nat} {E : List (Nat × Nat)} (hW : gW n E) {h : Nat} (hh : h < n) : ∀ k v, wlk E k h v → v ∈ (bfs E n (fun _ _ => false) h).1 ∧ (bfs E n (fun _ _ => false) h).2 v ≤ k := by
  obtain ⟨z1, z2, z3, z4⟩ := bfs_Z hW hh (fun _ _ => false)
  intro k
  induction k with
  | zero =>
    intro v hv
    have : h = v := hv
    rw [← this]
    exact ⟨z1, by omega⟩
  | succ k ih =>
    intro v hv
    obtain ⟨x, x1, x2⟩ := hv
    obtain ⟨a1, a2⟩ := ih x x1
    obtain ⟨b1, b2⟩ := z4 x a1 rfl v x2
    exact ⟨b1, by omega⟩
theorem bfs_pr {n : Nat} {E : List (Nat × Nat)} (hW : gW n E) {h : Nat} (hh : h < n) {pr : Nat → Nat → Bool} : ∀ k v, isD E h v k → (∀ y i, i ≤ k → wlk E i h y → wlk E (k - i) y v → pr y i = false) → v ∈ (bfs E n pr h).1 ∧ (bfs E n pr h).2 v = k := by
  obtain ⟨z1, z2, z3, z4⟩ := bfs_Z hW hh pr
  intro k
  induction k with
  | zero =>
    intro v hv _
    have : h = v := hv.1
    rw [← this]
    exact ⟨z1, z2⟩
  | succ k ih =>
    intro v hv hpr
    obtain ⟨x, x1, x2⟩ := hv.1
    have hx : isD E h x k := ⟨x1, fun j hj hw => hv.2 (j + 1) (by omega) ⟨x, hw, x2⟩⟩
    obtain ⟨a1, a2⟩ := ih x hx (fun y i hi h1 h2 => hpr y i (by omega) h1 (by
      rw [show k + 1 - i = (k - i) + 1 by omega]
      exact ⟨x, h2, x2⟩))
    have hprx := hpr x k (by omega) x1 (by rw [show k + 1 - k = 1 by omega]; exact wlk_1 x2)
    obtain ⟨b1, b2⟩ := z4 x a1 (by rw [a2]; exact hprx) v x2
    refine ⟨b1, ?_⟩
    have hw := z3 v b1
    rcases Nat.lt_or_ge ((bfs E n pr h).2 v) (k + 1) with z | z
    · exact absurd hw (hv.2 _ z)
    · omega
/-! distance by names is distance -/
theorem psF_w {n : Nat} {E : List (Nat × Nat)} (hW : gW n E) : ∀ (k : Nat), k ≤ n → ∀ p e, e ∈ psF n E k p → ∃ h, (gSF n E)[e.1]? = some h ∧ wlk E e.2 h p := by
  intro k
  induction k with
  | zero =>
    intro _ p e he
    cases he
  | succ k ih =>
    intro hk p e he
    obtain ⟨h, h1, h2, h3⟩ := gSF_get (E := E) (show k < n by omega)
    have he : e ∈ cur (psF n E k) k (prH (psF n E k) h) (bfs E n (prH (psF n E k) h) h) (bfs E n (prH (psF n E k) h) h).1.length p := by
      rw [psF, h2] at he
      exact he
    unfold cur at he
    split at he
    · rename_i hc
      rcases mem_app1.mp he with z | z
      · exact ih (by omega) p e z
      · rw [z]
        exact ⟨h, h1, (bfs_Z hW h3 _).2.2.1 p (List.mem_of_mem_take hc.1)⟩
    · exact ih (by omega) p e he
theorem psF_mono {n : Nat} {E : List (Nat × Nat)} : ∀ (d k p : Nat) (e : Nat × Nat), e ∈ psF n E k p → e ∈ psF n E (k + d) p
  | 0, k, p, e, he => he
  | d + 1, k, p, e, he => by
    have := psF_mono d k p e he
    rw [show k + (d + 1) = k + d + 1 by omega, psF]
    unfold psN cur
    split
    · exact mem_app1.mpr (Or.inl this)
    · exact this
theorem psF_new {n : Nat} {E : List (Nat × Nat)} {k h p : Nat} (hk : k < n) (hh : (gSF n E)[k]? = some h) (hp : p ∈ (bfs E n (prH (psF n E k) h) h).1) (hpr : prH (psF n E k) h p ((bfs E n (prH (psF n E k) h) h).2 p) = false) : (k, (bfs E n (prH (psF n E k) h) h).2 p) ∈ psF n E n p := by
  have h1 : (k, (bfs E n (prH (psF n E k) h) h).2 p) ∈ psF n E (k + 1) p := by
    rw [psF, show (gSF n E).getD k 0 = h by rw [List.getD_eq_getElem?_getD, hh]; rfl]
    unfold psN cur
    rw [List.take_length, if_pos ⟨hp, hpr⟩]
    exact mem_app1.mpr (Or.inr rfl)
  have := psF_mono (n - (k + 1)) (k + 1) p _ h1
  rw [show k + 1 + (n - (k + 1)) = n by omega] at this
  exact this
theorem far_exact {n : Nat} {E : List (Nat × Nat)} (hW : gW n E) {s t d : Nat} (hs : s < n) (ht : t < n) (hd : isD E s t d) : farO (psF n E n s) (psF n E n t) = some d := by
  have low : ∀ m, frP (psF n E n s) (psF n E n t) m → d ≤ m := by
    rintro m ⟨ea, eb, a1, b1, e1, e2⟩
    obtain ⟨h1, p1, p2⟩ := psF_w hW n (Nat.le_refl _) s ea a1
    obtain ⟨h2, q1, q2⟩ := psF_w hW n (Nat.le_refl _) t eb b1
    rw [e1, q1] at p1
    cases Option.some.inj p1
    have := wlk_add (E := E) (v := t) eb.2 (wlk_sym _ _ _ p2) t q2
    rw [← e2] at this
    rcases Nat.lt_or_ge m d with z | z
    · exact absurd this (hd.2 m z)
    · exact z
  have hub : ∃ r : Nat, ∃ x j : Nat, (gSF n E)[r]? = some x ∧ j ≤ d ∧ wlk E j s x ∧ wlk E (d - j) x t := by
    obtain ⟨r, hr⟩ := List.mem_iff_getElem?.mp (gSF_mem (E := E) hs)
    exact ⟨r, s, 0, hr, Nat.zero_le _, rfl, hd.1⟩
  obtain ⟨r, ⟨x, j, x1, x2, x3, x4⟩, rmin⟩ := pk_least _ hub
  have hrn : r < n := by
    have := (List.getElem?_eq_some_iff.mp x1).1
    rw [gSF_len] at this
    exact this
  have hx : x < n := gSF_lt (List.mem_of_getElem? x1)
  have key : ∀ (v jv : Nat), (v = s ∧ jv = j) ∨ (v = t ∧ jv = d - j) → isD E x v jv → (r, jv) ∈ psF n E n v := by
    intro v jv hv hdv
    have hpr : ∀ y i, i ≤ jv → wlk E i x y → wlk E (jv - i) y v → prH (psF n E r) x y i = false := by
      intro y i hi hy1 hy2
      rw [Bool.eq_false_iff]
      intro z
      have hf := farO_is (psF n E r y) (psF n E r x)
      unfold prH at z
      cases hfo : farO (psF n E r y) (psF n E r x) with
      | none =>
        rw [hfo] at z
        cases z
      | some m =>
        rw [hfo] at z hf
        have hmi : m ≤ i := of_decide_eq_true z
        obtain ⟨ea, eb, a1, b1, e1, e2⟩ := hf.1
        obtain ⟨h1, p1, p2⟩ := psF_w hW r (by omega) y ea a1
        obtain ⟨h2, q1, q2⟩ := psF_w hW r (by omega) x eb b1
        rw [e1, q1] at p1
        rw [← Option.some.inj p1] at p2
        have hlt : ea.1 < r := ((psF_ok (E := E) hW.1.2 r (by omega) y).2 ea a1).1
        have w1 := wlk_add (E := E) (v := h2) ea.2 (wlk_sym _ _ _ hy2) h2 (wlk_sym _ _ _ p2)
        have tot : ∀ A B, wlk E A s h2 → wlk E B h2 t → A + B ≤ d → False := fun A B wa wb hab => by
          have hs2 := wlk_add (E := E) (v := t) B wa t wb
          have : A + B = d := by
            rcases Nat.lt_or_ge (A + B) d with y | y
            · exact absurd hs2 (hd.2 _ y)
            · omega
          exact rmin ea.1 hlt ⟨h2, A, by rw [e1]; exact q1, by omega, wa, by rw [show d - A = B by omega]; exact wb⟩
        rcases hv with ⟨v1, v2⟩ | ⟨v1, v2⟩
        · rw [v1] at w1
          have w2 := wlk_add (E := E) (v := t) (d - j) q2 t x4
          exact tot _ _ w1 w2 (by omega)
        · rw [v1] at w1
          have w2 := wlk_add (E := E) (v := h2) eb.2 x3 h2 (wlk_sym _ _ _ q2)
          exact tot _ _ w2 (wlk_sym _ _ _ w1) (by omega)
    obtain ⟨c1, c2⟩ := bfs_pr hW hx jv v hdv hpr
    have hpv := hpr v jv (Nat.le_refl _) hdv.1 (by rw [Nat.sub_self]; exact rfl)
    have := psF_new hrn x1 c1 (by rw [c2]; exact hpv)
    rw [c2] at this
    exact this
  have d1 : isD E x s j := ⟨wlk_sym _ _ _ x3, fun i hi hw => by
    have := wlk_add (E := E) (v := t) (d - j) (wlk_sym _ _ _ hw) t x4
    exact hd.2 _ (by omega) this⟩
  have d2 : isD E x t (d - j) := ⟨x4, fun i hi hw => by
    have := wlk_add (E := E) (v := t) i x3 t hw
    exact hd.2 _ (by omega) this⟩
  have k1 := key s j (Or.inl ⟨rfl, rfl⟩) d1
  have k2 := key t (d - j) (Or.inr ⟨rfl, rfl⟩) d2
  have hP : frP (psF n E n s) (psF n E n t) d := ⟨_, _, k1, k2, rfl, by show d = j + (d - j); omega⟩
  exact isF_one (farO_is _ _) (o2 := some d) ⟨hP, low⟩
