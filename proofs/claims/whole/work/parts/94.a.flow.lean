/-! PURE: flows: two that can't grow are alike -/
abbrev opT : Type := Nat → Nat → Bool
def flF (op : opT) (x y : Nat) : Int := (if op y x = true then 1 else 0) - (if op x y = true then 1 else 0)
def flD (n : Nat) (op : opT) (x : Nat) : Int := fb_si (fun y => flF op x y) n
def flI (n : Nat) (E : List (Nat × Nat)) (aa bb : Nat) (op : opT) (vv : Int) : Prop := (∀ x y, op x y = true → gA E x y = true) ∧ (∀ x y, gA E x y = true → op x y = true ∨ op y x = true) ∧ ∀ x, x < n → flD n op x = (if x = aa then vv else 0) - (if x = bb then vv else 0)
theorem si_le {f g : Nat → Int} : ∀ {n : Nat}, (∀ k, k < n → f k ≤ g k) → fb_si f n ≤ fb_si g n
  | 0, _ => Int.le_refl _
  | n + 1, h => by
    rw [fb_si_succ, fb_si_succ]
    have h1 := si_le (f := f) (g := g) (n := n) (fun k hk => h k (by omega))
    have h2 := h n (by omega)
    omega
theorem si_zero : ∀ n, fb_si (fun _ => 0) n = 0
  | 0 => rfl
  | n + 1 => by
    rw [fb_si_succ, si_zero n]
    rfl
theorem si_swap (g : Nat → Nat → Int) (m : Nat) : ∀ n, fb_si (fun x => fb_si (fun y => g x y) m) n = fb_si (fun y => fb_si (fun x => g x y) n) m
  | 0 => by
    show (0 : Int) = fb_si (fun _ => 0) m
    rw [si_zero]
  | n + 1 => by
    rw [fb_si_succ, si_swap g m n, ← fb_si_add]
    rfl
theorem si_one {n aa : Nat} (ha : aa < n) (vv : Int) : fb_si (fun x => if x = aa then vv else 0) n = vv := by
  have := fb_si_upd (fun _ => (0 : Int)) vv ha
  rw [si_zero] at this
  rw [this]
  omega
theorem flF_anti (op : opT) (x y : Nat) : flF op x y = - flF op y x := by
  unfold flF
  omega
def capS (n : Nat) (E : List (Nat × Nat)) (SS : Nat → Bool) : Int := fb_si (fun x => fb_si (fun y => if (SS x && !SS y && gA E x y) = true then 1 else 0) n) n
theorem cut_val {n : Nat} {E : List (Nat × Nat)} {aa bb : Nat} {op : opT} {vv : Int} (ha : aa < n) (hI : flI n E aa bb op vv) {SS : Nat → Bool} (hSa : SS aa = true) (hSb : SS bb = false) : vv = fb_si (fun x => fb_si (fun y => if (SS x && !SS y) = true then flF op x y else 0) n) n := by
  have h1 : fb_si (fun x => if SS x = true then flD n op x else 0) n = vv := by
    rw [← si_one ha vv]
    apply fb_si_cong
    intro x hx
    by_cases hs : SS x = true
    · rw [if_pos hs, hI.2.2 x hx]
      have hxb : ¬ x = bb := fun z => by rw [z, hSb] at hs; cases hs
      rw [if_neg hxb]
      omega
    · rw [if_neg hs, if_neg (fun z => by rw [z] at hs; exact hs hSa)]
  have h2 : fb_si (fun x => fb_si (fun y => if (SS x && SS y) = true then flF op x y else 0) n) n = 0 := by
    have e1 := si_swap (fun x y => if (SS x && SS y) = true then flF op x y else 0) n n
    have e2 : fb_si (fun y => fb_si (fun x => if (SS x && SS y) = true then flF op x y else 0) n) n = fb_si (fun y => (-1) * fb_si (fun x => if (SS y && SS x) = true then flF op y x else 0) n) n := by
      apply fb_si_cong
      intro y _
      rw [← fb_si_mul]
      apply fb_si_cong
      intro x _
      rw [Bool.and_comm]
      by_cases hc : (SS y && SS x) = true
      · rw [if_pos hc, if_pos hc, flF_anti op x y]
        omega
      · rw [if_neg hc, if_neg hc]
        rfl
    rw [fb_si_mul] at e2
    omega
  have h3 : fb_si (fun x => if SS x = true then flD n op x else 0) n = fb_si (fun x => fb_si (fun y => if (SS x && SS y) = true then flF op x y else 0) n + fb_si (fun y => if (SS x && !SS y) = true then flF op x y else 0) n) n := by
    apply fb_si_cong
    intro x _
    rw [← fb_si_add]
    by_cases hs : SS x = true
    · rw [if_pos hs]
      unfold flD
      apply fb_si_cong
      intro y _
      rw [hs]
      cases SS y <;> simp
    · rw [if_neg hs]
      refine (Eq.trans (fb_si_cong (g := fun _ => 0) (fun y _ => ?_)) (si_zero n)).symm
      simp [Bool.eq_false_iff.mpr hs]
  rw [fb_si_add, h2, h1] at h3
  omega
theorem cut_le {n : Nat} {E : List (Nat × Nat)} {aa bb : Nat} {op : opT} {vv : Int} (ha : aa < n) (hI : flI n E aa bb op vv) {SS : Nat → Bool} (hSa : SS aa = true) (hSb : SS bb = false) : vv ≤ capS n E SS := by
  rw [cut_val ha hI hSa hSb]
  unfold capS
  apply si_le
  intro x _
  apply si_le
  intro y _
  cases hc : (SS x && !SS y) with
  | false => simp
  | true =>
    rw [if_pos rfl, Bool.true_and]
    unfold flF
    have := hI.1 y x
    cases hop : op y x with
    | false =>
      have h0 : (0 : Int) ≤ if op x y = true then 1 else 0 := by split <;> decide
      have h1 : (0 : Int) ≤ if gA E x y = true then 1 else 0 := by split <;> decide
      simp only [Bool.false_eq_true, if_false]
      omega
    | true =>
      have hg := this hop
      rw [gA_comm] at hg
      have h0 : (0 : Int) ≤ if op x y = true then 1 else 0 := by split <;> decide
      rw [if_pos rfl, if_pos hg]
      omega
theorem cut_full {n : Nat} {E : List (Nat × Nat)} {aa bb : Nat} {op : opT} {vv : Int} (ha : aa < n) (hI : flI n E aa bb op vv) {SS : Nat → Bool} (hSa : SS aa = true) (hSb : SS bb = false) (hcl : ∀ x y, x < n → y < n → SS x = true → op x y = true → SS y = true) : vv = capS n E SS := by
  rw [cut_val ha hI hSa hSb]
  unfold capS
  apply fb_si_cong
  intro x hx
  apply fb_si_cong
  intro y hy
  cases hc : (SS x && !SS y) with
  | false => simp
  | true =>
    rw [if_pos rfl, Bool.true_and]
    rw [Bool.and_eq_true] at hc
    have hno : op x y = false := by
      rw [Bool.eq_false_iff]
      intro z
      have := hcl x y hx hy hc.1 z
      rw [this] at hc
      cases hc.2
    unfold flF
    rw [hno]
    cases hg : gA E x y with
    | true =>
      rcases hI.2.1 x y hg with z | z
      · rw [hno] at z
        cases z
      · rw [z]
        rfl
    | false =>
      have : op y x = false := by
        rw [Bool.eq_false_iff]
        intro z
        have := hI.1 y x z
        rw [gA_comm, hg] at this
        cases this
      rw [this]
      rfl
/-- two flows that can't grow have one value -/
theorem flow_one {n : Nat} {E : List (Nat × Nat)} {aa bb : Nat} (ha : aa < n) {op op2 : opT} {vv v2 : Int} (h : flI n E aa bb op vv) (h2 : flI n E aa bb op2 v2) {SS S2 : Nat → Bool} (s1 : SS aa = true) (s2 : SS bb = false) (s3 : ∀ x y, x < n → y < n → SS x = true → op x y = true → SS y = true) (t1 : S2 aa = true) (t2 : S2 bb = false) (t3 : ∀ x y, x < n → y < n → S2 x = true → op2 x y = true → S2 y = true) : vv = v2 := by
  have a1 := cut_full ha h s1 s2 s3
  have a2 := cut_full ha h2 t1 t2 t3
  have b1 := cut_le ha h t1 t2
  have b2 := cut_le ha h2 s1 s2
  omega
/-- no flow is greater than the lines at its start -/
theorem flow_le {n : Nat} {E : List (Nat × Nat)} (hW : gW n E) {aa bb : Nat} (ha : aa < n) (hab : ¬ aa = bb) {op : opT} {vv : Int} (h : flI n E aa bb op vv) : vv < 12 := by
  have hn := hW.1
  have h1 := cut_le ha h (SS := fun x => decide (x = aa)) (by simp) (by simp; exact fun z => hab z.symm)
  have h2 : capS n E (fun x => decide (x = aa)) ≤ fb_si (fun x => if x = aa then (n : Int) - 1 else 0) n := by
    unfold capS
    apply si_le
    intro x _
    show fb_si (fun y => if (decide (x = aa) && !decide (y = aa) && gA E x y) = true then (1 : Int) else 0) n ≤ if x = aa then (n : Int) - 1 else 0
    by_cases hx : x = aa
    · rw [if_pos hx]
      have h3 : fb_si (fun y => if (decide (x = aa) && !decide (y = aa) && gA E x y) = true then (1 : Int) else 0) n ≤ fb_si (fun y => if y = aa then 0 else 1) n := by
        apply si_le
        intro y _
        by_cases hy : y = aa
        · simp [hy]
        · simp only [hy, if_false]
          split <;> decide
      have h5 : ∀ k, fb_si (fun _ => (1 : Int)) k = k := by
        intro k
        induction k with
        | zero => rfl
        | succ k ih =>
          rw [fb_si_succ, ih]
          omega
      have h4 : fb_si (fun y => if y = aa then (0 : Int) else 1) n = (n : Int) - 1 + 0 := by rw [fb_si_upd (fun _ => (1 : Int)) 0 ha, h5]
      omega
    · have : fb_si (fun y => if (decide (x = aa) && !decide (y = aa) && gA E x y) = true then (1 : Int) else 0) n = 0 := by
        refine Eq.trans (fb_si_cong (g := fun _ => 0) (fun y _ => ?_)) (si_zero n)
        simp [hx]
      rw [this, if_neg hx]
      exact Int.le_refl _
  rw [si_one ha] at h2
  omega
/-! a line is used -/
def opU (op : opT) (x y : Nat) (b : Bool) : opT := fun u v => if u = x ∧ v = y then b else op u v
/-- one more goes from x to y -/
def opP (op : opT) (x y : Nat) : opT := if op y x = true then opU op x y false else opU op y x true
/-- flow with one more on its way: come as far as cc, seen from the end -/
def flJ (n : Nat) (E : List (Nat × Nat)) (aa bb cc : Nat) (op : opT) (vv : Int) : Prop := (∀ x y, op x y = true → gA E x y = true) ∧ (∀ x y, gA E x y = true → op x y = true ∨ op y x = true) ∧ ∀ x, x < n → flD n op x = (if x = aa then vv else 0) - (if x = bb then vv else 0) + (if x = cc then 1 else 0) - (if x = bb then 1 else 0)
theorem opU_at {op : opT} {x y : Nat} {b : Bool} : opU op x y b x y = b := if_pos ⟨rfl, rfl⟩
theorem opU_ne {op : opT} {x y u v : Nat} {b : Bool} (h : ¬ (u = x ∧ v = y)) : opU op x y b u v = op u v := if_neg h
theorem opP_F {op : opT} {x y : Nat} (hxy : ¬ x = y) (h : op x y = true) : flF (opP op x y) x y = flF op x y + 1 ∧ flF (opP op x y) y x = flF op y x - 1 ∧ ∀ u v, ¬ (u = x ∧ v = y) → ¬ (u = y ∧ v = x) → flF (opP op x y) u v = flF op u v := by
  have hyx : ¬ y = x := fun z => hxy z.symm
  unfold opP
  by_cases hr : op y x = true
  · rw [if_pos hr]
    refine ⟨?_, ?_, fun u v h1 h2 => ?_⟩
    · unfold flF
      rw [opU_ne (fun z => hyx z.1), opU_at, hr, h]
      decide
    · unfold flF
      rw [opU_ne (fun z => hyx z.1), opU_at, hr, h]
      decide
    · unfold flF
      rw [opU_ne h1, opU_ne (fun z => h2 ⟨z.2, z.1⟩)]
  · rw [if_neg hr]
    have hr2 : op y x = false := Bool.eq_false_iff.mpr hr
    refine ⟨?_, ?_, fun u v h1 h2 => ?_⟩
    · unfold flF
      rw [opU_at, opU_ne (fun z => hxy z.1), hr2, h]
      decide
    · unfold flF
      rw [opU_at, opU_ne (fun z => hxy z.1), hr2, h]
      decide
    · unfold flF
      rw [opU_ne h2, opU_ne (fun z => h1 ⟨z.2, z.1⟩)]
theorem opP_other {op : opT} {x y u v : Nat} (h1 : ¬ (u = x ∧ v = y)) (h2 : ¬ (u = y ∧ v = x)) : opP op x y u v = op u v := by
  unfold opP
  by_cases hr : op y x = true
  · rw [if_pos hr]
    exact opU_ne h1
  · rw [if_neg hr]
    exact opU_ne h2
theorem flJ_step {n : Nat} {E : List (Nat × Nat)} {aa bb cc x : Nat} {op : opT} {vv : Int} (hx : x < n) (hc : cc < n) (hxc : ¬ x = cc) (h : flJ n E aa bb cc op vv) (ho : op x cc = true) : flJ n E aa bb x (opP op x cc) vv := by
  obtain ⟨f1, f2, f3⟩ := opP_F hxc ho
  have hg := h.1 x cc ho
  have hcx : ¬ cc = x := fun z => hxc z.symm
  refine ⟨fun u v huv => ?_, fun u v huv => ?_, fun u hu => ?_⟩
  · by_cases c1 : u = x ∧ v = cc
    · rw [c1.1, c1.2]
      exact hg
    · by_cases c2 : u = cc ∧ v = x
      · rw [c2.1, c2.2, gA_comm]
        exact hg
      · rw [opP_other c1 c2] at huv
        exact h.1 u v huv
  · by_cases c1 : u = x ∧ v = cc
    · rw [c1.1, c1.2]
      unfold opP
      by_cases hr : op cc x = true
      · rw [if_pos hr]
        right
        rw [opU_ne (fun z => hcx z.1)]
        exact hr
      · rw [if_neg hr]
        left
        rw [opU_ne (fun z => hxc z.1)]
        exact ho
    · by_cases c2 : u = cc ∧ v = x
      · rw [c2.1, c2.2]
        unfold opP
        by_cases hr : op cc x = true
        · rw [if_pos hr]
          left
          rw [opU_ne (fun z => hcx z.1)]
          exact hr
        · rw [if_neg hr]
          left
          exact opU_at
      · rw [opP_other c1 c2, opP_other (fun z => c2 ⟨z.2, z.1⟩) (fun z => c1 ⟨z.2, z.1⟩)]
        exact h.2.1 u v huv
  · have h0 := h.2.2 u hu
    unfold flD at h0 ⊢
    by_cases hux : u = x
    · have e : (fun y => flF (opP op x cc) u y) = fun y => if y = cc then flF op x cc + 1 else flF op u y := by
        funext y
        rw [hux]
        by_cases hy : y = cc
        · rw [if_pos hy, hy, f1]
        · rw [if_neg hy, f3 x y (fun z => hy z.2) (fun z => hxc z.1)]
      have e2 : fb_si (fun y => if y = cc then flF op x cc + 1 else flF op u y) n = fb_si (fun y => flF op u y) n - flF op u cc + (flF op x cc + 1) := fb_si_upd (fun y => flF op u y) (flF op x cc + 1) hc
      rw [e, e2, h0, hux, if_pos (show x = x from rfl), if_neg hxc]
      omega
    · by_cases huc : u = cc
      · have e : (fun y => flF (opP op x cc) u y) = fun y => if y = x then flF op cc x - 1 else flF op u y := by
          funext y
          rw [huc]
          by_cases hy : y = x
          · rw [if_pos hy, hy, f2]
          · rw [if_neg hy, f3 cc y (fun z => hcx z.1) (fun z => hy z.2)]
        have e2 : fb_si (fun y => if y = x then flF op cc x - 1 else flF op u y) n = fb_si (fun y => flF op u y) n - flF op u x + (flF op cc x - 1) := fb_si_upd (fun y => flF op u y) (flF op cc x - 1) hx
        rw [e, e2, h0, huc, if_pos (show cc = cc from rfl), if_neg hcx]
        omega
      · have e : (fun y => flF (opP op x cc) u y) = fun y => flF op u y := by
          funext y
          exact f3 u y (fun z => hux z.1) (fun z => huc z.1)
        rw [e, h0, if_neg hux, if_neg huc]
theorem flJ_0 {n : Nat} {E : List (Nat × Nat)} {aa bb : Nat} {op : opT} {vv : Int} (h : flI n E aa bb op vv) : flJ n E aa bb bb op vv := ⟨h.1, h.2.1, fun x hx => by rw [h.2.2 x hx]; omega⟩
theorem flJ_end {n : Nat} {E : List (Nat × Nat)} {aa bb : Nat} {op : opT} {vv : Int} (h : flJ n E aa bb aa op vv) : flI n E aa bb op (vv + 1) := ⟨h.1, h.2.1, fun x hx => by
  rw [h.2.2 x hx]
  by_cases h1 : x = aa <;> by_cases h2 : x = bb <;> simp only [h1, h2, if_true, if_false] <;> (try split) <;> omega⟩
theorem flI_0 {n : Nat} {E : List (Nat × Nat)} {aa bb : Nat} : flI n E aa bb (fun x y => gA E x y) 0 := ⟨fun x y h => h, fun x y h => Or.inl h, fun x _ => by
  unfold flD
  have : (fun y => flF (fun x y => gA E x y) x y) = fun _ => 0 := by
    funext y
    show ((if gA E y x = true then (1 : Int) else 0) - if gA E x y = true then 1 else 0) = 0
    rw [gA_comm E y x]
    omega
  rw [this, si_zero]
  simp⟩
