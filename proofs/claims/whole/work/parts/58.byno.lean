/-! PURE: the same, by the posts' own numbers -/
theorem sS_perm {T : tT} {w : Nat → Nat} {o : Option Nat} {l s : List Nat} (hl : l.Nodup) (hs : s.Nodup) (h : ∀ x, tP T x = o → (x ∈ l ↔ x ∈ s)) : sS T w o l = sS T w o s := by
  unfold sS
  refine List.Perm.sum_nat (List.Perm.map w ?_)
  rw [List.perm_ext_iff_of_nodup (hl.filter _) (hs.filter _)]
  intro x
  simp only [List.mem_filter, decide_eq_true_eq]
  exact ⟨fun z => ⟨(h x z.2).mp z.1, z.2⟩, fun z => ⟨(h x z.2).mpr z.1, z.2⟩⟩
theorem sS_all {T : tT} {n : Nat} (hT : tW n T) (hall : ∀ q, q < n → q ∈ tO T) {w : Nat → Nat} {o : Option Nat} : sS T w o (tO T) = sS T w o (List.range n) :=
  sS_perm hT.1 List.nodup_range (fun x _ => ⟨fun hx => List.mem_range.mpr (hT.2.1 x hx), fun hx => hall x (List.mem_range.mp hx)⟩)
theorem sS_ahead {T : tT} {n : Nat} (hT : tW n T) (hall : ∀ q, q < n → q ∈ tO T) (hM : tM T) {w : Nat → Nat} {o : Option Nat} {j c : Nat} (hj : (tO T)[j]? = some c) (ho : tP T c = o) : sS T w o ((tO T).take j) = sS T w o (List.range c) := by
  have hcn := hT.2.1 c (List.mem_of_getElem? hj)
  refine sS_perm (List.Nodup.sublist (List.take_sublist j _) hT.1) List.nodup_range (fun x hx => ⟨fun hm => ?_, fun hm => ?_⟩)
  · obtain ⟨i, hi, hix⟩ := mem_take_ix hm
    exact List.mem_range.mpr (hM i j x c hi hix hj (hx.trans ho.symm))
  · have hxc := List.mem_range.mp hm
    obtain ⟨i, hi⟩ := List.getElem?_of_mem (hall x (by omega))
    have hij : i < j := by
      rcases Nat.lt_trichotomy i j with hl | hl | hl
      · exact hl
      · rw [hl] at hi
        have := Option.some.inj (hi.symm.trans hj)
        omega
      · have := hM j i c x hl hj hi (ho.trans hx.symm)
        omega
    have hlt := (List.getElem?_eq_some_iff.mp hi).1
    refine List.mem_of_getElem? (i := i) ?_
    rw [List.getElem?_take, if_pos hij]
    exact hi
/-- numbers of posts, with no word of the order -/
def gEnt (n : Nat) (E : List (Nat × Nat)) (q : Nat) : Nat := (tEL (gTree n E)).1 q
def gLev (n : Nat) (E : List (Nat × Nat)) (q : Nat) : Nat := (tEL (gTree n E)).2.1 q
def gWt (n : Nat) (E : List (Nat × Nat)) (q : Nat) : Nat := tWt (gTree n E) q
theorem gWt_eq {n : Nat} {E : List (Nat × Nat)} (hW : gW n E) (q : Nat) : gWt n E q = 1 + sS (gTree n E) (gWt n E) (some q) (List.range n) := by
  have hT := gTree_W hW
  have h := tWt_eq hT.1 (gTree_M hW).2 q
  rw [sS_all hT (fun x hx => gTree_mem hx)] at h
  exact h
theorem gLev_eq {n : Nat} {E : List (Nat × Nat)} (hW : gW n E) {q : Nat} (hq : q < n) : gLev n E q + 1 = gEnt n E q + gWt n E q := by
  have hT := gTree_W hW
  obtain ⟨j, hj⟩ := List.getElem?_of_mem (gTree_mem (E := E) hq)
  have h := (tEL_eq hT.1 (gTree_M hW).2).2.1 j q (List.getElem?_eq_some_iff.mp hj).1 hj
  have h2 := tWt_eq hT.1 (gTree_M hW).2 q
  rw [List.take_length] at h
  show (tEL (gTree n E)).2.1 q + 1 = (tEL (gTree n E)).1 q + tWt (gTree n E) q
  omega
theorem gEnt_root {n : Nat} {E : List (Nat × Nat)} (hW : gW n E) {q : Nat} (hq : q < n) (ho : tP (gTree n E) q = none) : gEnt n E q = sS (gTree n E) (gWt n E) none (List.range q) := by
  have hT := gTree_W hW
  obtain ⟨j, hj⟩ := List.getElem?_of_mem (gTree_mem (E := E) hq)
  have h := (tEL_eq hT.1 (gTree_M hW).2).2.2.1 j q (List.getElem?_eq_some_iff.mp hj).1 hj ho
  rw [sS_ahead hT (fun x hx => gTree_mem hx) (gTree_M hW).1 hj ho] at h
  exact h
theorem gEnt_kid {n : Nat} {E : List (Nat × Nat)} (hW : gW n E) {q pp : Nat} (hq : q < n) (ho : tP (gTree n E) q = some pp) : gEnt n E q = gEnt n E pp + 1 + sS (gTree n E) (gWt n E) (some pp) (List.range q) := by
  have hT := gTree_W hW
  obtain ⟨j, hj⟩ := List.getElem?_of_mem (gTree_mem (E := E) hq)
  have h := (tEL_eq hT.1 (gTree_M hW).2).2.2.2 j q pp (List.getElem?_eq_some_iff.mp hj).1 hj ho
  rw [sS_ahead hT (fun x hx => gTree_mem hx) (gTree_M hW).1 hj ho] at h
  exact h
