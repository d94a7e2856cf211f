/-! ===== MAKING: the flat world grows; only constructors ===== -/
def nA (ad0 : Nat → Nat) (n0 sz : Nat) : Nat → Prop := fun q => (∃ j, j < n0 ∧ q = ad0 j) ∨ sz ≤ q
def nrm (k mc ms : Nat) : Room := { frames := k, cells := mc, slots := ms, locals := 64 * k }
def nW (n : Nat) (R : zR) : Prop := ∀ (j k b : Nat), R j k = some b → b < n
def nO (U : State) : Prop := va_AO "NameNets$Names" U ∧ va_AO "NameNets$Page" U
def zmn (M : zM) (n : Nat) : zM := fun j k => if j = n then 0 else M j k
def zrn (R : zR) (n : Nat) : zR := fun j k => if j = n then none else R j k
def zrs (R : zR) (j k b : Nat) : zR := fun j' k' => if j' = j ∧ k' = k then some b else R j' k'
def zup (ad : Nat → Nat) (n a : Nat) : Nat → Nat := fun j => if j = n then a else ad j
def nQ (G : zG) (ad0 : Nat → Nat) (n0 sz : Nat) (L1 : List zD) (M1 : zM) (R1 : zR) : Array Value → State → Outcome → State → Prop := fun _ st o t =>
  (o = .returned none ∧ ∃ ad1 : Nat → Nat, (∀ j, j < n0 → ad1 j = ad0 j) ∧ va_P G.1 vwCl (zW G ad1 L1 M1 R1) t.heap ∧ va_D (nA ad0 n0 sz) (zW G ad1 L1 M1 R1)) ∧ va_F (nA ad0 n0 sz) st t
def nCx (p : Program) (s : State) (m : MethodId) (args : Array Value) (meth : Method) (c : Code) (G : zG) (yn : MethodName) (cc : ByteArray) (nL : Nat) : Prop :=
  p.tables.exec = Jvm.exec ∧ c.code = cc ∧ c.maxLocals = nL ∧ meth.sig.returnType = none ∧ meth.locks = false ∧ s.vm.findClass yn.cls = some m.cls ∧ (∀ w ∈ zbig, w.before args s = true) ∧ va_K G.1 vwCl (zT G) s ∧ nO s ∧ meth.name = "<init>"
def nV (l : Launch) (G : zG) (k mc ms : Nat) (yn : MethodName) (cc : ByteArray) (nL n0 : Nat) (L1 : List zD) (M1 : zM) (R1 : zR) (pc : Nat) (lv : List (Nat × Value)) (st : List Value) (L : List zD) (M : zM) (R : zR) (n1 n2 : Nat) : Prop :=
  ∀ (p : Program) (e : Env) (s : State) (m : MethodId) (args : Array Value) (below : List Frame) (meth : Method) (c : Code) (H : Heap) (locs : List Loc) (ls : Array Slot) (ad ad0 : Nat → Nat),
    nCx p s m args meth c G yn cc nL → (∀ j, j < n0 → ad j = ad0 j) → nW L.length R → va_P G.1 vwCl (zW G ad L M R) H → va_D (nA ad0 n0 s.heap.size) (zW G ad L M R) → va_S (nA ad0 n0 s.heap.size) s.heap H locs → lv_has ls nL (lv.map (zep ad)) →
    W p l e (nrm k mc ms) s m args below meth c H locs n1 n2 (MQ below (nQ G ad0 n0 s.heap.size L1 M1 R1) args s mc ms (nA ad0 n0 s.heap.size)) (F0 m pc ls (st.map (zev ad)))
def nPre (G : zG) (ad0 : Nat → Nat) (sz : Nat) (av : List Value) (L : List zD) (M : zM) (R : zR) : Array Value → State → Prop := fun v U =>
  v = (av.map (zev ad0)).toArray ∧ U.heap.size = sz ∧ va_P G.1 vwCl (zW G ad0 L M R) U.heap ∧ va_D (fun _ => True) (zW G ad0 L M R) ∧ va_K G.1 vwCl (zT G) U ∧ nO U
def nC (l : Launch) (G : zG) (k mc ms : Nat) (yn : MethodName) (cc : ByteArray) (nL : Nat) (av : List Value) (L : List zD) (M : zM) (R : zR) (L1 : List zD) (M1 : zM) (R1 : zR) : Prop :=
  nW L.length R → ∀ (ad0 : Nat → Nat) (sz : Nat), Met l yn (zws yn cc nL none) (nrm k mc ms) (nPre G ad0 sz av L M R) (nQ G ad0 L.length sz L1 M1 R1) mc ms (nA ad0 L.length sz)
theorem nW_new {n : Nat} {R : zR} (h : nW n R) : nW (n + 1) (zrn R n) := by
  intro j k b hb
  unfold zrn at hb
  split at hb
  · cases hb
  · have := h j k b hb
    omega
theorem nW_set {n : Nat} {R : zR} {j k b : Nat} (h : nW n R) (hb : b < n) : nW n (zrs R j k b) := by
  intro j1 k1 b1 h1
  unfold zrs at h1
  split at h1
  · cases h1
    exact hb
  · exact h j1 k1 b1 h1
theorem zE_ad {G : zG} {ad ad2 : Nat → Nat} {d : zD} {mi : Nat → Int32} {mr : Nat → Option Nat} (h : ∀ k b, mr k = some b → ad2 b = ad b) : zE G ad2 d mi mr = zE G ad d mi mr := by
  have hm : ∀ k, (mr k).map ad2 = (mr k).map ad := by
    intro k
    cases hk : mr k with
    | none => rfl
    | some b => simp [h k b hk]
  unfold zE zF
  simp only [hm]
theorem zW_ad {G : zG} {ad ad2 : Nat → Nat} {L : List zD} {M : zM} {R : zR} (hw : nW L.length R) (h : ∀ j, j < L.length → ad2 j = ad j) : zW G ad2 L M R = zW G ad L M R := by
  apply List.ext_getElem?
  intro i
  simp only [zW, List.getElem?_mapIdx]
  cases hd : L[i]? with
  | none => rfl
  | some d =>
    have hi : i < L.length := (List.getElem?_eq_some_iff.mp hd).1
    simp only [Option.map_some]
    rw [h i hi, zE_ad (fun k b hb => h b (hw i k b hb))]
theorem zW_push {G : zG} {ad : Nat → Nat} {L : List zD} {M : zM} {R : zR} {d : zD} (a : Nat) (hw : nW L.length R) : zW G (zup ad L.length a) (L ++ [d]) (zmn M L.length) (zrn R L.length) = zW G ad L M R ++ [(a, zE G ad d (fun _ => 0) (fun _ => none))] := by
  apply List.ext_getElem?
  intro i
  have hlen : (zW G ad L M R).length = L.length := by simp [zW]
  by_cases h1 : i < L.length
  · rw [List.getElem?_append_left (by omega)]
    simp only [zW, List.getElem?_mapIdx]
    rw [List.getElem?_append_left h1]
    cases hd : L[i]? with
    | none => rfl
    | some d0 =>
      simp only [Option.map_some]
      have e1 : zmn M L.length i = M i := by funext k; simp [zmn, show ¬ i = L.length by omega]
      have e2 : zrn R L.length i = R i := by funext k; simp [zrn, show ¬ i = L.length by omega]
      rw [e1, e2, show zup ad L.length a i = ad i by simp [zup, show ¬ i = L.length by omega]]
      rw [zE_ad (ad := ad) (ad2 := zup ad L.length a) (fun k b hb => by simp [zup, show ¬ b = L.length from fun q => by have := hw i k b hb; omega])]
  · by_cases h2 : i = L.length
    · subst h2
      rw [List.getElem?_append_right (by omega), hlen, Nat.sub_self]
      simp only [zW, List.getElem?_mapIdx]
      rw [List.getElem?_append_right (Nat.le_refl _), Nat.sub_self]
      simp only [List.getElem?_cons_zero, Option.map_some]
      have e1 : zmn M L.length L.length = fun _ => 0 := by funext k; simp [zmn]
      have e2 : zrn R L.length L.length = fun _ => none := by funext k; simp [zrn]
      rw [e1, e2, show zup ad L.length a L.length = a by simp [zup]]
      rw [zE_ad (fun k b hb => by cases hb)]
    · rw [List.getElem?_eq_none (by simp [zW]; omega), List.getElem?_eq_none (by simp [zW]; omega)]
theorem zW_setR {G : zG} {ad : Nat → Nat} {L : List zD} {M : zM} {R : zR} {j k b : Nat} {d : zD} {e : va_E} (h : L[j]? = some d) (he : e = zE G ad d (M j) (va_up (R j) k (some b))) :
    (zW G ad L M R).set j (ad j, e) = zW G ad L M (zrs R j k b) := by
  apply List.ext_getElem?
  intro i
  rw [List.getElem?_set]
  simp only [zW, List.getElem?_mapIdx, List.length_mapIdx]
  by_cases hij : j = i
  · subst hij
    have hlt : j < L.length := (List.getElem?_eq_some_iff.mp h).1
    have e1 : zrs R j k b j = va_up (R j) k (some b) := by funext q; by_cases hq : q = k <;> simp [zrs, va_up, hq]
    rw [if_pos rfl, if_pos hlt, h, he, e1]
    rfl
  · have e1 : zrs R j k b i = R i := by funext q; simp [zrs, show ¬ i = j from fun q => hij q.symm]
    rw [if_neg hij, e1]
theorem zF_setR {ad : Nat → Nat} {bs : List Bool} {mi : Nat → Int32} {mr : Nat → Option Nat} {k b : Nat} (h : bs[k]? = some false) : (zF ad bs mi mr).set k (.ref (ad b)) = zF ad bs mi (va_up mr k (some b)) := by
  apply List.ext_getElem?
  intro i
  rw [List.getElem?_set]
  simp only [zF, List.getElem?_mapIdx, List.length_mapIdx]
  by_cases hij : k = i
  · subst hij
    have hlt : k < bs.length := (List.getElem?_eq_some_iff.mp h).1
    rw [if_pos rfl, if_pos hlt, h]
    simp [va_up, va_rf]
  · rw [if_neg hij]
    cases bs[i]? with
    | none => rfl
    | some b => simp [va_up, show ¬ i = k from fun q => hij q.symm]
/-- references among locals and stack are of cells that are there -/
def nRef (n : Nat) (v : Value) : Bool := match v with
  | .ref j => Nat.blt j n
  | _ => true
theorem nRef_ev {n : Nat} {v : Value} {ad : Nat → Nat} {a : Nat} (h : nRef n v = true) : zev (zup ad n a) v = zev ad v := by
  cases v with
  | ref j =>
    have : j < n := by simpa [nRef, Nat.blt_eq] using h
    have hne : ¬ j = n := fun q => absurd (q ▸ this) (Nat.lt_irrefl _)
    simp [zev, zup, hne]
  | _ => rfl
theorem nRef_lv {n : Nat} {lv : List (Nat × Value)} {ad : Nat → Nat} {a : Nat} (h : lv.all (fun q => nRef n q.2) = true) : lv.map (zep (zup ad n a)) = lv.map (zep ad) := by
  apply List.map_congr_left
  intro q hq
  have := List.all_eq_true.mp h q hq
  simp [zep, nRef_ev this]
theorem nRef_st {n : Nat} {st : List Value} {ad : Nat → Nat} {a : Nat} (h : st.all (nRef n) = true) : st.map (zev (zup ad n a)) = st.map (zev ad) := by
  apply List.map_congr_left
  intro q hq
  exact nRef_ev (List.all_eq_true.mp h q hq)
section nRows
variable {l : Launch} {G : zG} {k mc ms : Nat} {yn : MethodName} {cc : ByteArray} {nL n0 : Nat} {L1 : List zD} {M1 : zM} {R1 : zR} {pc : Nat} {lv : List (Nat × Value)} {st : List Value} {L : List zD} {M : zM} {R : zR} {n1 n2 : Nat}
theorem nC.of {av : List Value} (hy : plainName yn.cls = true) (hi : yn.name = "<init>") (hn : (lg_sl av).length ≤ nL) (h : nV l G k mc ms yn cc nL L.length L1 M1 R1 0 (lv_args 0 av) [] L M R 0 0) : nC l G k mc ms yn cc nL av L M R L1 M1 R1 := by
  intro hw ad0 sz
  refine Met.ofW (cc := cc) (maxL := nL) (ret := none) hy rfl ?_
  intro p e s m args below meth c s₁ B hml hv
  obtain ⟨rfl, rfl, hP, hD, hK, hO⟩ := hv
  have hts := atoms_spec (ws := zws yn cc nL none) B.pre
  have hl := lv_entry (av.map (zev ad0)) (n := nL) (by rw [zsl_len]; exact hn)
  rw [lg_entry_eq]
  rw [zargs_map] at hl
  have hin : meth.name = "<init>" := (name_of_methodNamed B.named B.method).1.trans hi
  have hDD : va_D (nA ad0 L.length s.heap.size) (zW G ad0 L M R) := by
    refine hD.weaken (fun i q hq _ => ?_)
    simp only [zW, List.getElem?_mapIdx] at hq
    obtain ⟨d, hd, rfl⟩ := Option.map_eq_some_iff.mp hq
    exact Or.inl ⟨i, (List.getElem?_eq_some_iff.mp hd).1, rfl⟩
  exact h p e s m _ below meth c s.heap [] _ ad0 ad0 ⟨B.exec, B.bytes, hml, B.returns, B.notSynchronized, findClass_of_methodNamed B.named, fun w hw => hts w (List.mem_cons_of_mem _ hw), hK, hO, hin⟩ (fun _ _ => rfl) hw hP hDD va_S.rf hl

theorem n_aload_n {q : Fin 4} {x : Nat} (hd : decode cc pc = .ok (.aload_n q, 1)) (hi : zlk lv q = some (.ref x)) (h : nV l G k mc ms yn cc nL n0 L1 M1 R1 (pc + 1) (lv) (.ref x :: st) L M R n1 n2) : nV l G k mc ms yn cc nL n0 L1 M1 R1 pc lv (st) L M R n1 n2 := fun p e s m args below meth c H locs ls ad ad0 cx h0 hw hP hD hS hl => lv_aload_n cx.1 cx.2.1 hd rfl (zlk_has hl hi) (h p e s m args below meth c H locs ls ad ad0 cx h0 hw hP hD hS hl)
theorem n_iload_n {q : Fin 4} {x : Int32} (hd : decode cc pc = .ok (.iload_n q, 1)) (hi : zlk lv q = some (.int x)) (h : nV l G k mc ms yn cc nL n0 L1 M1 R1 (pc + 1) (lv) (.int x :: st) L M R n1 n2) : nV l G k mc ms yn cc nL n0 L1 M1 R1 pc lv (st) L M R n1 n2 := fun p e s m args below meth c H locs ls ad ad0 cx h0 hw hP hD hS hl => lv_iload_n cx.1 cx.2.1 hd rfl (zlk_has hl hi) (h p e s m args below meth c H locs ls ad ad0 cx h0 hw hP hD hS hl)
theorem n_iconst {n : Int} (v : Int32) (hd : decode cc pc = .ok (.iconst n, 1)) (hv : Int32.ofInt n = v) (h : nV l G k mc ms yn cc nL n0 L1 M1 R1 (pc + 1) (lv) (.int v :: st) L M R n1 n2) : nV l G k mc ms yn cc nL n0 L1 M1 R1 pc lv (st) L M R n1 n2 := fun p e s m args below meth c H locs ls ad ad0 cx h0 hw hP hD hS hl => lv_iconst cx.1 cx.2.1 hd hv (h p e s m args below meth c H locs ls ad ad0 cx h0 hw hP hD hS hl)
theorem n_bipush {n : Int} (v : Int32) (hd : decode cc pc = .ok (.bipush n, 2)) (hv : (Int8.ofInt n).toInt32 = v) (h : nV l G k mc ms yn cc nL n0 L1 M1 R1 (pc + 2) (lv) (.int v :: st) L M R n1 n2) : nV l G k mc ms yn cc nL n0 L1 M1 R1 pc lv (st) L M R n1 n2 := fun p e s m args below meth c H locs ls ad ad0 cx h0 hw hP hD hS hl => lv_bipush cx.1 cx.2.1 hd hv (h p e s m args below meth c H locs ls ad ad0 cx h0 hw hP hD hS hl)
theorem n_sipush {n : Int} (v : Int32) (hd : decode cc pc = .ok (.sipush n, 3)) (hv : (Int16.ofInt n).toInt32 = v) (h : nV l G k mc ms yn cc nL n0 L1 M1 R1 (pc + 3) (lv) (.int v :: st) L M R n1 n2) : nV l G k mc ms yn cc nL n0 L1 M1 R1 pc lv (st) L M R n1 n2 := fun p e s m args below meth c H locs ls ad ad0 cx h0 hw hP hD hS hl => lv_sipush cx.1 cx.2.1 hd hv (h p e s m args below meth c H locs ls ad ad0 cx h0 hw hP hD hS hl)
theorem n_dup {v : Value} (hd : decode cc pc = .ok (.dup, 1)) (hc : v.category = 1) (h : nV l G k mc ms yn cc nL n0 L1 M1 R1 (pc + 1) (lv) (v :: v :: st) L M R n1 n2) : nV l G k mc ms yn cc nL n0 L1 M1 R1 pc lv (v :: st) L M R n1 n2 := fun p e s m args below meth c H locs ls ad ad0 cx h0 hw hP hD hS hl => lv_dup cx.1 cx.2.1 hd ((zev_cat ad v).trans hc) (h p e s m args below meth c H locs ls ad ad0 cx h0 hw hP hD hS hl)
theorem n_imul {x y : Int32} (v : Int32) (hd : decode cc pc = .ok (.imul, 1)) (hv : x * y = v) (h : nV l G k mc ms yn cc nL n0 L1 M1 R1 (pc + 1) lv (.int v :: st) L M R n1 n2) : nV l G k mc ms yn cc nL n0 L1 M1 R1 pc lv (.int y :: .int x :: st) L M R n1 n2 := by
  subst hv
  exact fun p e s m args below meth c H locs ls ad ad0 cx h0 hw hP hD hS hl => lv_imul cx.1 cx.2.1 hd (h p e s m args below meth c H locs ls ad ad0 cx h0 hw hP hD hS hl)
theorem n_istore_n {q : Fin 4} {x : Int32} (hd : decode cc pc = .ok (.istore_n q, 1)) (hn : (q : Nat) < nL) (h : nV l G k mc ms yn cc nL n0 L1 M1 R1 (pc + 1) (zst lv q (.int x)) st L M R n1 n2) : nV l G k mc ms yn cc nL n0 L1 M1 R1 pc lv (.int x :: st) L M R n1 n2 := fun p e s m args below meth c H locs ls ad ad0 cx h0 hw hP hD hS hl => lv_istore_n cx.1 cx.2.1 hd rfl hl hn (zst_map (v := .int x)) (fun ls' hl' => h p e s m args below meth c H locs ls' ad ad0 cx h0 hw hP hD hS hl')
theorem n_iinc {i : Nat} {n : Int} {x : Int32} (v : Int32) (hd : decode cc pc = .ok (.iinc i n, 3)) (hi : zlk lv i = some (.int x)) (hv : x + Int32.ofInt n = v) (hn : i < nL) (h : nV l G k mc ms yn cc nL n0 L1 M1 R1 (pc + 3) (zst lv i (.int v)) st L M R n1 n2) : nV l G k mc ms yn cc nL n0 L1 M1 R1 pc lv st L M R n1 n2 := by
  intro p e s m args below meth c H locs ls ad ad0 cx h0 hw hP hD hS hl
  obtain ⟨q, hq⟩ := zlk_at hi
  exact lv_iinc (k := q) (x := x) (v := v) cx.1 cx.2.1 hd hl (by rw [List.getElem?_map, hq]; rfl) hv hn (zst_map (v := .int v)) (fun ls' hl' => h p e s m args below meth c H locs ls' ad ad0 cx h0 hw hP hD hS hl')
theorem n_goto {off : Int} (tgt : Nat) (hd : decode cc pc = .ok (.goto off, 3)) (ht : (pc : Int) + off = (tgt : Int)) (h : nV l G k mc ms yn cc nL n0 L1 M1 R1 tgt lv st L M R n1 n2) : nV l G k mc ms yn cc nL n0 L1 M1 R1 pc lv st L M R n1 n2 := fun p e s m args below meth c H locs ls ad ad0 cx h0 hw hP hD hS hl => lv_goto (tgt := tgt) cx.1 cx.2.1 hd ht (h p e s m args below meth c H locs ls ad ad0 cx h0 hw hP hD hS hl)
theorem n_if_ne_t {x : Int32} {off : Int} (tgt : Nat) (hd : decode cc pc = .ok (.ifCond .ne off, 3)) (ht : (pc : Int) + off = (tgt : Int)) (hc : ¬ x = 0) (h : nV l G k mc ms yn cc nL n0 L1 M1 R1 tgt lv st L M R n1 n2) : nV l G k mc ms yn cc nL n0 L1 M1 R1 pc lv (.int x :: st) L M R n1 n2 := fun p e s m args below meth c H locs ls ad ad0 cx h0 hw hP hD hS hl => lv_if_ne (tgt := tgt) cx.1 cx.2.1 hd ht (fun _ => h p e s m args below meth c H locs ls ad ad0 cx h0 hw hP hD hS hl) (fun hn => absurd hc (by first | exact hn | exact fun z => z hn))
theorem n_if_ne_f {x : Int32} {off : Int} (tgt : Nat) (hd : decode cc pc = .ok (.ifCond .ne off, 3)) (ht : (pc : Int) + off = (tgt : Int)) (hc : x = 0) (h : nV l G k mc ms yn cc nL n0 L1 M1 R1 (pc + 3) lv st L M R n1 n2) : nV l G k mc ms yn cc nL n0 L1 M1 R1 pc lv (.int x :: st) L M R n1 n2 := fun p e s m args below meth c H locs ls ad ad0 cx h0 hw hP hD hS hl => lv_if_ne (tgt := tgt) cx.1 cx.2.1 hd ht (fun hn => absurd hc (by first | exact hn | exact fun z => z hn | exact fun z => hn z)) (fun _ => h p e s m args below meth c H locs ls ad ad0 cx h0 hw hP hD hS hl)
theorem n_icmp_ne_t {x y : Int32} {off : Int} (tgt : Nat) (hd : decode cc pc = .ok (.if_icmp .ne off, 3)) (ht : (pc : Int) + off = (tgt : Int)) (hc : ¬ x = y) (h : nV l G k mc ms yn cc nL n0 L1 M1 R1 tgt lv st L M R n1 n2) : nV l G k mc ms yn cc nL n0 L1 M1 R1 pc lv (.int y :: .int x :: st) L M R n1 n2 := fun p e s m args below meth c H locs ls ad ad0 cx h0 hw hP hD hS hl => lv_icmp_ne (tgt := tgt) cx.1 cx.2.1 hd ht (fun _ => h p e s m args below meth c H locs ls ad ad0 cx h0 hw hP hD hS hl) (fun hn => absurd hc (by first | exact hn | exact fun z => z hn))
theorem n_icmp_ne_f {x y : Int32} {off : Int} (tgt : Nat) (hd : decode cc pc = .ok (.if_icmp .ne off, 3)) (ht : (pc : Int) + off = (tgt : Int)) (hc : x = y) (h : nV l G k mc ms yn cc nL n0 L1 M1 R1 (pc + 3) lv st L M R n1 n2) : nV l G k mc ms yn cc nL n0 L1 M1 R1 pc lv (.int y :: .int x :: st) L M R n1 n2 := fun p e s m args below meth c H locs ls ad ad0 cx h0 hw hP hD hS hl => lv_icmp_ne (tgt := tgt) cx.1 cx.2.1 hd ht (fun hn => absurd hc (by first | exact hn | exact fun z => z hn | exact fun z => hn z)) (fun _ => h p e s m args below meth c H locs ls ad ad0 cx h0 hw hP hD hS hl)
theorem n_icmp_ge_t {x y : Int32} {off : Int} (tgt : Nat) (hd : decode cc pc = .ok (.if_icmp .ge off, 3)) (ht : (pc : Int) + off = (tgt : Int)) (hc : y ≤ x) (h : nV l G k mc ms yn cc nL n0 L1 M1 R1 tgt lv st L M R n1 n2) : nV l G k mc ms yn cc nL n0 L1 M1 R1 pc lv (.int y :: .int x :: st) L M R n1 n2 := fun p e s m args below meth c H locs ls ad ad0 cx h0 hw hP hD hS hl => lv_icmp_ge (tgt := tgt) cx.1 cx.2.1 hd ht (fun _ => h p e s m args below meth c H locs ls ad ad0 cx h0 hw hP hD hS hl) (fun hn => absurd hc (by first | exact hn | exact fun z => z hn))
theorem n_icmp_ge_f {x y : Int32} {off : Int} (tgt : Nat) (hd : decode cc pc = .ok (.if_icmp .ge off, 3)) (ht : (pc : Int) + off = (tgt : Int)) (hc : ¬ y ≤ x) (h : nV l G k mc ms yn cc nL n0 L1 M1 R1 (pc + 3) lv st L M R n1 n2) : nV l G k mc ms yn cc nL n0 L1 M1 R1 pc lv (.int y :: .int x :: st) L M R n1 n2 := fun p e s m args below meth c H locs ls ad ad0 cx h0 hw hP hD hS hl => lv_icmp_ge (tgt := tgt) cx.1 cx.2.1 hd ht (fun hn => absurd hc (by first | exact hn | exact fun z => z hn | exact fun z => hn z)) (fun _ => h p e s m args below meth c H locs ls ad ad0 cx h0 hw hP hD hS hl)
theorem n_getI {t d0 idx j q N : Nat} {C : String} {T : u_T} {ty : Nat → FieldType} (v : Int32) (hk : zK t C T N ty) (hL : L[j]? = some (t, d0)) (hq : (zB t)[q]? = some true) (hw1 : Cond.fieldLink yn.cls idx (T q).1 (T q).2.1 (T q).2.2.1 ∈ zbig) (hv : M j q = v) (hd : decode cc pc = .ok (.getfield idx, 3)) (h : nV l G k mc ms yn cc nL n0 L1 M1 R1 (pc + 3) lv (.int v :: st) L M R n1 n2) : nV l G k mc ms yn cc nL n0 L1 M1 R1 pc lv (.ref j :: st) L M R n1 n2 := by
  intro p e s m args below meth c H locs ls ad ad0 cx h0 hw hP hD hS hl
  subst hv
  have hqN : q < N := by rw [← hk.2.2.2.2.2]; exact (List.getElem?_eq_some_iff.mp hq).1
  exact va_get cx.1 cx.2.1 cx.2.2.2.2.2.2.1 hk.2.1 cx.2.2.2.2.2.1 cx.2.2.2.2.2.2.2.1 hP j (zW_obj hk.2.2.2.2.1 hL) hk.1 q hqN (cx.2.2.2.2.2.2.1 _ hw1) (fun _ hx => hx) (zF_get hq) hd (h p e s m args below meth c H locs ls ad ad0 cx h0 hw hP hD hS hl)
theorem n_getR {t d0 idx j q N b : Nat} {C : String} {T : u_T} {ty : Nat → FieldType} (hk : zK t C T N ty) (hL : L[j]? = some (t, d0)) (hq : (zB t)[q]? = some false) (hR : R j q = some b) (hw1 : Cond.fieldLink yn.cls idx (T q).1 (T q).2.1 (T q).2.2.1 ∈ zbig) (hd : decode cc pc = .ok (.getfield idx, 3)) (h : nV l G k mc ms yn cc nL n0 L1 M1 R1 (pc + 3) lv (.ref b :: st) L M R n1 n2) : nV l G k mc ms yn cc nL n0 L1 M1 R1 pc lv (.ref j :: st) L M R n1 n2 := by
  intro p e s m args below meth c H locs ls ad ad0 cx h0 hw hP hD hS hl
  have hqN : q < N := by rw [← hk.2.2.2.2.2]; exact (List.getElem?_eq_some_iff.mp hq).1
  exact va_get cx.1 cx.2.1 cx.2.2.2.2.2.2.1 hk.2.1 cx.2.2.2.2.2.1 cx.2.2.2.2.2.2.2.1 hP j (zW_obj hk.2.2.2.2.1 hL) hk.1 q hqN (cx.2.2.2.2.2.2.1 _ hw1) (fun _ hx => hx) (zF_getR hq hR) hd (h p e s m args below meth c H locs ls ad ad0 cx h0 hw hP hD hS hl)
theorem n_putI {t d0 idx j q N : Nat} {C : String} {T : u_T} {ty : Nat → FieldType} {x : Int32} (hk : zK t C T N ty) (hL : L[j]? = some (t, d0)) (hq : (zB t)[q]? = some true) (hw1 : Cond.fieldLink yn.cls idx (T q).1 (T q).2.1 (T q).2.2.1 ∈ zbig) (hfin : (T q).2.2.2 = false) (hn : narrow (ty q) (.int x) = .int x) (hf : fits (ty q) (.int x) = true) (hd : decode cc pc = .ok (.putfield idx, 3)) (h : nV l G k mc ms yn cc nL n0 L1 M1 R1 (pc + 3) lv st L (zs M j q x) R n1 n2) : nV l G k mc ms yn cc nL n0 L1 M1 R1 pc lv (.int x :: .ref j :: st) L M R n1 n2 := by
  intro p e s m args below meth c H locs ls ad ad0 cx h0 hw hP hD hS hl
  have hqN : q < N := by rw [← hk.2.2.2.2.2]; exact (List.getElem?_eq_some_iff.mp hq).1
  refine va_put cx.1 cx.2.1 cx.2.2.2.2.2.2.1 hk.2.1 ty hk.2.2.1 hk.2.2.2.1 cx.2.2.2.2.2.1 cx.2.2.2.2.2.2.2.1 hP hD hS j (zW_obj hk.2.2.2.2.1 hL) hk.1 q hqN (cx.2.2.2.2.2.2.1 _ hw1) (fun _ hx => hx) hfin (hk.2.2.1 q hqN) hn hf (by rw [zF_len, hk.2.2.2.2.2]; exact hqN) hd (fun H1 locs1 hP1 hD1 hS1 => ?_)
  have he := zW_set (G := G) (ad := ad) (M := M) (R := R) (k := q) (x := x) (e := .inr (t, (zF ad (zB t) (M j) (R j)).set q (.int x))) hL (by rw [zE_obj hk.2.2.2.2.1, zF_set hq])
  exact h p e s m args below meth c H1 locs1 ls ad ad0 cx h0 hw (by rw [← he]; exact hP1) (by rw [← he]; exact hD1) hS1 hl
theorem n_putR {t d0 idx j q N b : Nat} {C : String} {T : u_T} {ty : Nat → FieldType} (hk : zK t C T N ty) (hL : L[j]? = some (t, d0)) (hq : (zB t)[q]? = some false) (hw1 : Cond.fieldLink yn.cls idx (T q).1 (T q).2.1 (T q).2.2.1 ∈ zbig) (hfin : (T q).2.2.2 = false) (hn : ∀ a : Nat, narrow (ty q) (.ref a) = .ref a ∧ fits (ty q) (.ref a) = true) (hb : b < L.length) (hd : decode cc pc = .ok (.putfield idx, 3)) (h : nV l G k mc ms yn cc nL n0 L1 M1 R1 (pc + 3) lv st L M (zrs R j q b) n1 n2) : nV l G k mc ms yn cc nL n0 L1 M1 R1 pc lv (.ref b :: .ref j :: st) L M R n1 n2 := by
  intro p e s m args below meth c H locs ls ad ad0 cx h0 hw hP hD hS hl
  have hqN : q < N := by rw [← hk.2.2.2.2.2]; exact (List.getElem?_eq_some_iff.mp hq).1
  refine va_put cx.1 cx.2.1 cx.2.2.2.2.2.2.1 hk.2.1 ty hk.2.2.1 hk.2.2.2.1 cx.2.2.2.2.2.1 cx.2.2.2.2.2.2.2.1 hP hD hS j (zW_obj hk.2.2.2.2.1 hL) hk.1 q hqN (cx.2.2.2.2.2.2.1 _ hw1) (fun _ hx => hx) hfin (hk.2.2.1 q hqN) (hn (ad b)).1 (hn (ad b)).2 (by rw [zF_len, hk.2.2.2.2.2]; exact hqN) hd (fun H1 locs1 hP1 hD1 hS1 => ?_)
  have he := zW_setR (G := G) (ad := ad) (M := M) (R := R) (k := q) (b := b) (e := .inr (t, (zF ad (zB t) (M j) (R j)).set q (.ref (ad b)))) hL (by rw [zE_obj hk.2.2.2.2.1, zF_setR hq])
  exact h p e s m args below meth c H1 locs1 ls ad ad0 cx h0 (nW_set hw hb) (by rw [← he]; exact hP1) (by rw [← he]; exact hD1) hS1 hl
theorem n_putFI {t d0 idx j q N : Nat} {C : String} {T : u_T} {ty : Nat → FieldType} {x : Int32} (hk : zK t C T N ty) (hL : L[j]? = some (t, d0)) (hq : (zB t)[q]? = some true) (hw1 : Cond.fieldLink yn.cls idx (T q).1 (T q).2.1 (T q).2.2.1 ∈ zbig) (hfin : (T q).2.2.2 = true) (hdecl : (T q).1 = yn.cls) (hn : narrow (ty q) (.int x) = .int x) (hf : fits (ty q) (.int x) = true) (hd : decode cc pc = .ok (.putfield idx, 3)) (h : nV l G k mc ms yn cc nL n0 L1 M1 R1 (pc + 3) lv st L (zs M j q x) R n1 n2) : nV l G k mc ms yn cc nL n0 L1 M1 R1 pc lv (.int x :: .ref j :: st) L M R n1 n2 := by
  intro p e s m args below meth c H locs ls ad ad0 cx h0 hw hP hD hS hl
  have hqN : q < N := by rw [← hk.2.2.2.2.2]; exact (List.getElem?_eq_some_iff.mp hq).1
  refine va_putF cx.1 cx.2.1 cx.2.2.2.2.2.2.1 hk.2.1 ty hk.2.2.1 hk.2.2.2.1 cx.2.2.2.2.2.1 cx.2.2.2.2.2.2.2.1 hP hD hS j (zW_obj hk.2.2.2.2.1 hL) hk.1 q hqN (cx.2.2.2.2.2.2.1 _ hw1) (fun _ hx => hx) hfin cx.2.2.2.2.2.2.2.2.2 hdecl (hk.2.2.1 q hqN) hn hf (by rw [zF_len, hk.2.2.2.2.2]; exact hqN) hd (fun H1 locs1 hP1 hD1 hS1 => ?_)
  have he := zW_set (G := G) (ad := ad) (M := M) (R := R) (k := q) (x := x) (e := .inr (t, (zF ad (zB t) (M j) (R j)).set q (.int x))) hL (by rw [zE_obj hk.2.2.2.2.1, zF_set hq])
  exact h p e s m args below meth c H1 locs1 ls ad ad0 cx h0 hw (by rw [← he]; exact hP1) (by rw [← he]; exact hD1) hS1 hl
theorem n_putFR {t d0 idx j q N b : Nat} {C : String} {T : u_T} {ty : Nat → FieldType} (hk : zK t C T N ty) (hL : L[j]? = some (t, d0)) (hq : (zB t)[q]? = some false) (hw1 : Cond.fieldLink yn.cls idx (T q).1 (T q).2.1 (T q).2.2.1 ∈ zbig) (hfin : (T q).2.2.2 = true) (hdecl : (T q).1 = yn.cls) (hn : ∀ a : Nat, narrow (ty q) (.ref a) = .ref a ∧ fits (ty q) (.ref a) = true) (hb : b < L.length) (hd : decode cc pc = .ok (.putfield idx, 3)) (h : nV l G k mc ms yn cc nL n0 L1 M1 R1 (pc + 3) lv st L M (zrs R j q b) n1 n2) : nV l G k mc ms yn cc nL n0 L1 M1 R1 pc lv (.ref b :: .ref j :: st) L M R n1 n2 := by
  intro p e s m args below meth c H locs ls ad ad0 cx h0 hw hP hD hS hl
  have hqN : q < N := by rw [← hk.2.2.2.2.2]; exact (List.getElem?_eq_some_iff.mp hq).1
  refine va_putF cx.1 cx.2.1 cx.2.2.2.2.2.2.1 hk.2.1 ty hk.2.2.1 hk.2.2.2.1 cx.2.2.2.2.2.1 cx.2.2.2.2.2.2.2.1 hP hD hS j (zW_obj hk.2.2.2.2.1 hL) hk.1 q hqN (cx.2.2.2.2.2.2.1 _ hw1) (fun _ hx => hx) hfin cx.2.2.2.2.2.2.2.2.2 hdecl (hk.2.2.1 q hqN) (hn (ad b)).1 (hn (ad b)).2 (by rw [zF_len, hk.2.2.2.2.2]; exact hqN) hd (fun H1 locs1 hP1 hD1 hS1 => ?_)
  have he := zW_setR (G := G) (ad := ad) (M := M) (R := R) (k := q) (b := b) (e := .inr (t, (zF ad (zB t) (M j) (R j)).set q (.ref (ad b)))) hL (by rw [zE_obj hk.2.2.2.2.1, zF_setR hq])
  exact h p e s m args below meth c H1 locs1 ls ad ad0 cx h0 (nW_set hw hb) (by rw [← he]; exact hP1) (by rw [← he]; exact hD1) hS1 hl
theorem n_iast {j n : Nat} {i x : Int32} (q : Nat) (hL : L[j]? = some (100, n)) (hi : zin i n = true) (hq : i.toNatClampNeg = q) (hd : decode cc pc = .ok (.iastore, 1)) (h : nV l G k mc ms yn cc nL n0 L1 M1 R1 (pc + 1) lv st L (zs M j q x) R n1 n2) : nV l G k mc ms yn cc nL n0 L1 M1 R1 pc lv (.int x :: .int i :: .ref j :: st) L M R n1 n2 := by
  intro p e s m args below meth c H locs ls ad ad0 cx h0 hw hP hD hS hl
  subst hq
  refine va_iast cx.1 cx.2.1 cx.2.2.2.2.2.2.2.1 hP hD hS j 0 (zW_i hL) rfl (zin_vp hi) hd (fun H1 locs1 hP1 hD1 hS1 => ?_)
  have he := zW_set (G := G) (ad := ad) (M := M) (R := R) (k := i.toNatClampNeg) (x := x) (e := .inl (G.2 0, n, .inl (upd (M j) i.toNatClampNeg x))) hL rfl
  exact h p e s m args below meth c H1 locs1 ls ad ad0 cx h0 hw (by rw [← he]; exact hP1) (by rw [← he]; exact hD1) hS1 hl
theorem n_naast {j n b d0 : Nat} {i : Int32} (q : Nat) (hL : L[j]? = some (103, n)) (hb : L[b]? = some (2, d0)) (hi : zin i n = true) (hq : i.toNatClampNeg = q) (hd : decode cc pc = .ok (.aastore, 1)) (h : nV l G k mc ms yn cc nL n0 L1 M1 R1 (pc + 1) lv st L M (zrs R j q b) n1 n2) : nV l G k mc ms yn cc nL n0 L1 M1 R1 pc lv (.ref b :: .int i :: .ref j :: st) L M R n1 n2 := by
  intro p e s m args below meth c H locs ls ad ad0 cx h0 hw hP hD hS hl
  subst hq
  have hbl : b < L.length := (List.getElem?_eq_some_iff.mp hb).1
  refine va_astq (r := (RX2, TX2, 5)) cx.1 cx.2.1 cx.2.2.2.2.2.2.2.1 hP hD hS j 3 b 2 (zW_n hL) rfl (zW_obj (by decide) hb) rfl (zin_vp hi) hd (fun H1 locs1 hP1 hD1 hS1 => ?_)
  have he := zW_setR (G := G) (ad := ad) (M := M) (R := R) (k := i.toNatClampNeg) (b := b) (e := .inl (G.2 3, n, .inr (.inr (.inr (.inr (va_up (fun q => (R j q).map ad) i.toNatClampNeg (some (ad b)))))))) hL (by
    have e1 : (va_up (fun q => (R j q).map ad) i.toNatClampNeg (some (ad b))) = fun q => (va_up (R j) i.toNatClampNeg (some b) q).map ad := by
      funext q
      by_cases hqi : q = i.toNatClampNeg <;> simp [va_up, hqi]
    rw [e1]
    rfl)
  exact h p e s m args below meth c H1 locs1 ls ad ad0 cx h0 (nW_set hw hbl) (by rw [← he]; exact hP1) (by rw [← he]; exact hD1) hS1 hl
theorem n_paast {j n b d0 : Nat} {i : Int32} (q : Nat) (hL : L[j]? = some (104, n)) (hb : L[b]? = some (4, d0)) (hi : zin i n = true) (hq : i.toNatClampNeg = q) (hd : decode cc pc = .ok (.aastore, 1)) (h : nV l G k mc ms yn cc nL n0 L1 M1 R1 (pc + 1) lv st L M (zrs R j q b) n1 n2) : nV l G k mc ms yn cc nL n0 L1 M1 R1 pc lv (.ref b :: .int i :: .ref j :: st) L M R n1 n2 := by
  intro p e s m args below meth c H locs ls ad ad0 cx h0 hw hP hD hS hl
  subst hq
  have hbl : b < L.length := (List.getElem?_eq_some_iff.mp hb).1
  refine va_astq (r := (RX4, TX4, 3)) cx.1 cx.2.1 cx.2.2.2.2.2.2.2.1 hP hD hS j 4 b 4 (zW_p hL) rfl (zW_obj (by decide) hb) rfl (zin_vp hi) hd (fun H1 locs1 hP1 hD1 hS1 => ?_)
  have he := zW_setR (G := G) (ad := ad) (M := M) (R := R) (k := i.toNatClampNeg) (b := b) (e := .inl (G.2 4, n, .inr (.inr (.inr (.inr (va_up (fun q => (R j q).map ad) i.toNatClampNeg (some (ad b)))))))) hL (by
    have e1 : (va_up (fun q => (R j q).map ad) i.toNatClampNeg (some (ad b))) = fun q => (va_up (R j) i.toNatClampNeg (some b) q).map ad := by
      funext q
      by_cases hqi : q = i.toNatClampNeg <;> simp [va_up, hqi]
    rw [e1]
    rfl)
  exact h p e s m args below meth c H1 locs1 ls ad ad0 cx h0 (nW_set hw hbl) (by rw [← he]; exact hP1) (by rw [← he]; exact hD1) hS1 hl
theorem n_grow {p : Program} {e : Env} {s : State} {m : MethodId} {args : Array Value} {below : List Frame} {meth : Method} {c : Code} {H1 : Heap} {locs : List Loc} {ls : Array Slot} {ad ad0 : Nat → Nat} {d : zD} {e1 : va_E} (a : Nat) (he1 : e1 = zE G ad d (fun _ => 0) (fun _ => none)) (cx : nCx p s m args meth c G yn cc nL) (h0 : ∀ j, j < n0 → ad j = ad0 j) (hn0 : n0 ≤ L.length) (hw : nW L.length R) (hP : va_P G.1 vwCl (zW G ad L M R ++ [(a, e1)]) H1) (hD : va_D (nA ad0 n0 s.heap.size) (zW G ad L M R ++ [(a, e1)])) (hS : va_S (nA ad0 n0 s.heap.size) s.heap H1 locs) (hl : lv_has ls nL (lv.map (zep ad))) (hlv : lv.all (fun q => nRef L.length q.2) = true) (hst : st.all (nRef L.length) = true)
    (h : nV l G k mc ms yn cc nL n0 L1 M1 R1 pc lv (.ref L.length :: st) (L ++ [d]) (zmn M L.length) (zrn R L.length) n1 n2) : W p l e (nrm k mc ms) s m args below meth c H1 locs n1 n2 (MQ below (nQ G ad0 n0 s.heap.size L1 M1 R1) args s mc ms (nA ad0 n0 s.heap.size)) (F0 m pc ls (.ref a :: st.map (zev ad))) := by
  subst he1
  have hp := zW_push (G := G) (ad := ad) (M := M) (d := d) a hw
  have hq := h p e s m args below meth c H1 locs ls (zup ad L.length a) ad0 cx (fun j hj => by rw [← h0 j hj]; simp [zup, show ¬ j = L.length by omega]) (by rw [List.length_append]; exact nW_new hw) (by rw [hp]; exact hP) (by rw [hp]; exact hD) hS (by rw [nRef_lv hlv]; exact hl)
  have es : (Value.ref L.length :: st).map (zev (zup ad L.length a)) = .ref a :: st.map (zev ad) := by
    rw [List.map_cons, nRef_st hst]
    simp [zev, zup]
  rw [es] at hq
  exact hq
theorem nA_new {ad0 : Nat → Nat} {n0 sz : Nat} : ∀ q, sz ≤ q → nA ad0 n0 sz q := fun _ h => Or.inr h
theorem n_new {t idx N : Nat} {C : String} {T : u_T} {ty : Nat → FieldType} (n : Nat) (hk : zK t C T N ty) (hlen : L.length = n) (hn0 : n0 ≤ n) (hcl : Cond.classLink yn.cls idx C ∈ zbig) (hin : Cond.instantiable C N ∈ zbig) (hini : Cond.initialized C ∈ zbig) (hfs : ∀ j, j < N → defaultValue (ty j) = vp_V (zF (fun _ => 0) (zB t) (fun _ => 0) (fun _ => none)) j) (hc1 : n1 + 1 ≤ mc) (hc2 : n2 + N ≤ ms) (hlv : lv.all (fun q => nRef n q.2) = true) (hst : st.all (nRef n) = true) (hd : decode cc pc = .ok (.new idx, 3)) (h : nV l G k mc ms yn cc nL n0 L1 M1 R1 (pc + 3) lv (.ref n :: st) (L ++ [(t, 0)]) (zmn M n) (zrn R n) (n1 + 1) (n2 + N)) : nV l G k mc ms yn cc nL n0 L1 M1 R1 pc lv st L M R n1 n2 := by
  intro p e s m args below meth c H locs ls ad ad0 cx h0 hw hP hD hS hl
  subst hlen
  have hz : ∀ ad2 : Nat → Nat, zF ad2 (zB t) (fun _ => 0) (fun _ => none) = zF (fun _ => 0) (zB t) (fun _ => 0) (fun _ => none) := fun ad2 => by unfold zF; simp
  refine va_new (ci := t) (fs := zF (fun _ => 0) (zB t) (fun _ => 0) (fun _ => none)) cx.1 cx.2.1 cx.2.2.2.2.2.2.1 hk.2.1 ty hk.2.2.1 cx.2.2.2.2.2.1 (cx.2.2.2.2.2.2.1 _ hcl) (cx.2.2.2.2.2.2.1 _ hin) (cx.2.2.2.2.2.2.1 _ hini) cx.2.2.2.2.2.2.2.1 hP hD hS nA_new hk.1 hfs hc1 hc2 hd (fun a H1 hP1 hD1 hS1 => ?_)
  exact n_grow a (by rw [zE_obj hk.2.2.2.2.1, hz ad]) cx h0 hn0 hw hP1 hD1 hS1 hl hlv hst h
theorem v_RA {s : State} {c1 c2 : ClassId} {ty : FieldType} (h1 : va_RA s c1 ty) (h2 : va_RA s c2 ty) : c1 = c2 := by
  cases ty with
  | object C =>
    obtain ⟨_, _, _, _, _, a⟩ := h1
    obtain ⟨_, _, _, _, _, b⟩ := h2
    exact Option.some.inj (a.symm.trans b)
  | _ => exact Option.some.inj (Eq.trans (Eq.symm h1) h2)
theorem n_newa_i {x : Int32} (n N : Nat) (hlen : L.length = n) (hn0 : n0 ≤ n) (harr : Cond.arrayClass .int ∈ zbig) (hx : ¬ x < 0) (hN : x.toNatClampNeg = N) (hby : N ≤ 1000) (hc1 : n1 + 1 ≤ mc) (hc2 : n2 + N ≤ ms) (hlv : lv.all (fun q => nRef n q.2) = true) (hst : st.all (nRef n) = true) (hd : decode cc pc = .ok (.newarray .int, 2)) (h : nV l G k mc ms yn cc nL n0 L1 M1 R1 (pc + 2) lv (.ref n :: st) (L ++ [(100, N)]) (zmn M n) (zrn R n) (n1 + 1) (n2 + N)) : nV l G k mc ms yn cc nL n0 L1 M1 R1 pc lv (.int x :: st) L M R n1 n2 := by
  intro p e s m args below meth c H locs ls ad ad0 cx h0 hw hP hD hS hl
  subst hlen
  have hcb : componentBytes FieldType.int ≤ 8 := by decide
  have hbb : N * componentBytes FieldType.int ≤ 536870912 := Nat.le_trans (Nat.mul_le_mul hby hcb) (by decide)
  refine va_newa (atype := .int) (a0 := (N, .inl (fun _ => 0))) (ty := .int) cx.1 cx.2.1 (cx.2.2.2.2.2.2.1 _ harr) rfl cx.2.2.2.2.2.2.2.1 hP hD hS nA_new (fun cA => by rw [vp_cell_i]; rfl) hx hN hbb hc1 hc2 hd (fun a cA H1 hK1 hP1 hD1 hS1 => ?_)
  have hcA : cA = G.2 0 := v_RA (hK1.2 5 (cA, .int) rfl).2 (hK1.2 0 (G.2 0, .int) rfl).2
  subst hcA
  exact n_grow a rfl cx h0 hn0 hw hP1 hD1 hS1 hl hlv hst h
theorem n_newa_b {x : Int32} (n N : Nat) (hlen : L.length = n) (hn0 : n0 ≤ n) (harr : Cond.arrayClass .byte ∈ zbig) (hx : ¬ x < 0) (hN : x.toNatClampNeg = N) (hby : N ≤ 1000) (hc1 : n1 + 1 ≤ mc) (hc2 : n2 + N ≤ ms) (hlv : lv.all (fun q => nRef n q.2) = true) (hst : st.all (nRef n) = true) (hd : decode cc pc = .ok (.newarray .byte, 2)) (h : nV l G k mc ms yn cc nL n0 L1 M1 R1 (pc + 2) lv (.ref n :: st) (L ++ [(101, N)]) (zmn M n) (zrn R n) (n1 + 1) (n2 + N)) : nV l G k mc ms yn cc nL n0 L1 M1 R1 pc lv (.int x :: st) L M R n1 n2 := by
  intro p e s m args below meth c H locs ls ad ad0 cx h0 hw hP hD hS hl
  subst hlen
  have hcb : componentBytes FieldType.byte ≤ 8 := by decide
  have hbb : N * componentBytes FieldType.byte ≤ 536870912 := Nat.le_trans (Nat.mul_le_mul hby hcb) (by decide)
  refine va_newa (atype := .byte) (a0 := (N, .inl (fun _ => 0))) (ty := .byte) cx.1 cx.2.1 (cx.2.2.2.2.2.2.1 _ harr) rfl cx.2.2.2.2.2.2.2.1 hP hD hS nA_new (fun cA => by rw [vp_cell_i]; rfl) hx hN hbb hc1 hc2 hd (fun a cA H1 hK1 hP1 hD1 hS1 => ?_)
  have hcA : cA = G.2 1 := v_RA (hK1.2 5 (cA, .byte) rfl).2 (hK1.2 1 (G.2 1, .byte) rfl).2
  subst hcA
  exact n_grow a rfl cx h0 hn0 hw hP1 hD1 hS1 hl hlv hst h
theorem n_newa_z {x : Int32} (n N : Nat) (hlen : L.length = n) (hn0 : n0 ≤ n) (harr : Cond.arrayClass .boolean ∈ zbig) (hx : ¬ x < 0) (hN : x.toNatClampNeg = N) (hby : N ≤ 1000) (hc1 : n1 + 1 ≤ mc) (hc2 : n2 + N ≤ ms) (hlv : lv.all (fun q => nRef n q.2) = true) (hst : st.all (nRef n) = true) (hd : decode cc pc = .ok (.newarray .boolean, 2)) (h : nV l G k mc ms yn cc nL n0 L1 M1 R1 (pc + 2) lv (.ref n :: st) (L ++ [(102, N)]) (zmn M n) (zrn R n) (n1 + 1) (n2 + N)) : nV l G k mc ms yn cc nL n0 L1 M1 R1 pc lv (.int x :: st) L M R n1 n2 := by
  intro p e s m args below meth c H locs ls ad ad0 cx h0 hw hP hD hS hl
  subst hlen
  have hcb : componentBytes FieldType.boolean ≤ 8 := by decide
  have hbb : N * componentBytes FieldType.boolean ≤ 536870912 := Nat.le_trans (Nat.mul_le_mul hby hcb) (by decide)
  refine va_newa (atype := .boolean) (a0 := (N, .inl (fun _ => 0))) (ty := .boolean) cx.1 cx.2.1 (cx.2.2.2.2.2.2.1 _ harr) rfl cx.2.2.2.2.2.2.2.1 hP hD hS nA_new (fun cA => by rw [vp_cell_i]; rfl) hx hN hbb hc1 hc2 hd (fun a cA H1 hK1 hP1 hD1 hS1 => ?_)
  have hcA : cA = G.2 2 := v_RA (hK1.2 5 (cA, .boolean) rfl).2 (hK1.2 2 (G.2 2, .boolean) rfl).2
  subst hcA
  exact n_grow a rfl cx h0 hn0 hw hP1 hD1 hS1 hl hlv hst h
theorem n_newq_n {x : Int32} {idx : Nat} (n N : Nat) (hlen : L.length = n) (hn0 : n0 ≤ n) (hcl : Cond.classLink yn.cls idx "NameNets$Names" ∈ zbig) (hx : ¬ x < 0) (hN : x.toNatClampNeg = N) (hby : N * 4 ≤ 536870912) (hc1 : n1 + 1 ≤ mc) (hc2 : n2 + N ≤ ms) (hlv : lv.all (fun q => nRef n q.2) = true) (hst : st.all (nRef n) = true) (hd : decode cc pc = .ok (.anewarray idx, 3)) (h : nV l G k mc ms yn cc nL n0 L1 M1 R1 (pc + 3) lv (.ref n :: st) (L ++ [(103, N)]) (zmn M n) (zrn R n) (n1 + 1) (n2 + N)) : nV l G k mc ms yn cc nL n0 L1 M1 R1 pc lv (.int x :: st) L M R n1 n2 := by
  intro p e s m args below meth c H locs ls ad ad0 cx h0 hw hP hD hS hl
  subst hlen
  refine va_newq cx.1 cx.2.1 cx.2.2.2.2.2.1 (cx.2.2.2.2.2.2.1 _ hcl) cx.2.2.2.2.2.2.2.2.1.1 cx.2.2.2.2.2.2.2.1 hP hD hS nA_new hx hN hby hc1 hc2 hd (fun a cA H1 hK1 hP1 hD1 hS1 => ?_)
  have hcA : cA = G.2 3 := v_RA (hK1.2 5 (cA, .object "NameNets$Names") rfl).2 (hK1.2 3 (G.2 3, .object "NameNets$Names") rfl).2
  subst hcA
  exact n_grow a rfl cx h0 hn0 hw hP1 hD1 hS1 hl hlv hst h
theorem n_newq_p {x : Int32} {idx : Nat} (n N : Nat) (hlen : L.length = n) (hn0 : n0 ≤ n) (hcl : Cond.classLink yn.cls idx "NameNets$Page" ∈ zbig) (hx : ¬ x < 0) (hN : x.toNatClampNeg = N) (hby : N * 4 ≤ 536870912) (hc1 : n1 + 1 ≤ mc) (hc2 : n2 + N ≤ ms) (hlv : lv.all (fun q => nRef n q.2) = true) (hst : st.all (nRef n) = true) (hd : decode cc pc = .ok (.anewarray idx, 3)) (h : nV l G k mc ms yn cc nL n0 L1 M1 R1 (pc + 3) lv (.ref n :: st) (L ++ [(104, N)]) (zmn M n) (zrn R n) (n1 + 1) (n2 + N)) : nV l G k mc ms yn cc nL n0 L1 M1 R1 pc lv (.int x :: st) L M R n1 n2 := by
  intro p e s m args below meth c H locs ls ad ad0 cx h0 hw hP hD hS hl
  subst hlen
  refine va_newq cx.1 cx.2.1 cx.2.2.2.2.2.1 (cx.2.2.2.2.2.2.1 _ hcl) cx.2.2.2.2.2.2.2.2.1.2 cx.2.2.2.2.2.2.2.1 hP hD hS nA_new hx hN hby hc1 hc2 hd (fun a cA H1 hK1 hP1 hD1 hS1 => ?_)
  have hcA : cA = G.2 4 := v_RA (hK1.2 5 (cA, .object "NameNets$Page") rfl).2 (hK1.2 4 (G.2 4, .object "NameNets$Page") rfl).2
  subst hcA
  exact n_grow a rfl cx h0 hn0 hw hP1 hD1 hS1 hl hlv hst h
theorem n_obj {j idx : Nat} (hlink : Cond.methodLink yn.cls idx Lib.objectInit ∈ zbig) (hk : 1 ≤ k) (hst : st = []) (hd : decode cc pc = .ok (.invokespecial idx, 3)) (h : nV l G k mc ms yn cc nL n0 L1 M1 R1 (pc + 3) lv st L M R n1 n2) : nV l G k mc ms yn cc nL n0 L1 M1 R1 pc lv (.ref j :: st) L M R n1 n2 := by
  intro p e s m args below meth c H locs ls ad ad0 cx h0 hw hP hD hS hl
  subst hst
  refine W.objInit cx.1 cx.2.1 cx.2.2.2.2.2.1 (cx.2.2.2.2.2.2.1 _ hlink) (cx.2.2.2.2.2.2.1 _ tw_106) (cx.2.2.2.2.2.2.1 _ tw_107) rfl (hl.1.trans cx.2.2.1.symm) rfl hd hk ?_ (h p e s m args below meth c H locs ls ad ad0 cx h0 hw hP hD hS hl)
  have h9 := lv_room (m := m) (pc := pc) (ls := ls) (rest := [.ref (ad j)]) (st := []) (by decide)
  show _ ≤ 64 * k
  have h8 : 2 * (F0 m pc ls [Value.ref (ad j)]).monitorRoom ≤ 8 := by simpa using h9
  simp only [List.map_nil, List.sum_nil]
  exact Nat.le_trans (Nat.add_le_add_right (Nat.add_le_add_right h8 0) 12) (by omega)
theorem nO_moved {s U : State} (h : nO s) (hW : s.WarmedH U.vm) : nO U := ⟨va_AO.moved hW.alike h.1, va_AO.moved hW.alike h.2⟩
theorem n_callI {y : MethodName} {cc1 : ByteArray} {nL1 k1 mc1 ms1 idx b : Nat} {As : List Value} {L2 : List zD} {M2 : zM} {R2 : zR} (hc : nC l G k1 mc1 ms1 y cc1 nL1 (.ref b :: As) L M R L2 M2 R2) (hy : zcB y cc1 nL1 none As.length) (hyn : y.name = "<init>") (hyi : Cond.instanceMethod y ∈ zbig) (hw1 : Cond.methodLink yn.cls idx y ∈ zbig) (hk : k1 + 1 ≤ k ∧ 8 + (nL1 + 11) + 64 * k1 ≤ 64 * k) (hcat : (st.map fun v => v.category).sum ≤ 8) (hn0 : n0 ≤ L.length) (hlv : lv.all (fun q => nRef L.length q.2) = true) (hst : st.all (nRef L.length) = true) (hc1 : n1 + mc1 ≤ mc) (hc2 : n2 + ms1 ≤ ms) (hw2 : nW L.length R → nW L2.length R2) (hd : decode cc pc = .ok (.invokespecial idx, 3))
    (h : nV l G k mc ms yn cc nL n0 L1 M1 R1 (pc + 3) lv st L2 M2 R2 (n1 + mc1) (n2 + ms1)) : nV l G k mc ms yn cc nL n0 L1 M1 R1 pc lv (As.reverse ++ .ref b :: st) L M R n1 n2 := by
  intro p e s m args below meth c H locs ls ad ad0 cx h0 hw hP hD hS hl
  have hts := cx.2.2.2.2.2.2.1
  have hM := hc hw ad H.size
  have hcb : CallB (nrm k mc ms) s args yn.cls idx y cc1 nL1 none (zws y cc1 nL1 none) (nrm k1 mc1 ms1) mc1 ms1 As.length := by
    refine callB_of As.length hts (zgoodIn (fun w hw => ?_)) rfl rfl rfl (hts _ hy.1) (hts _ hw1) hy.2.2 hk
    rcases List.mem_cons.mp hw with rfl | hw
    · exact hy.2.1
    · exact hw
  have hrun := va_runI (As := As.map (zev ad)) (b := ad b) (rest := st.map (zev ad)) (g := F0 m pc ls ((As.reverse ++ .ref b :: st).map (zev ad))) (R := nrm k mc ms) (e := e) (below := below) (meth := meth) (H := H) (locs := locs) (cells := n1) (slots := n2) ⟨cx.1, cx.2.1, cx.2.2.1, cx.2.2.2.2.2.1, hts⟩ hM ⟨hcb, hyn, hts _ hyi⟩
    ⟨fun a U g mk q => ⟨q.1, q.2.1, q.2.2.1, q.2.2.2.1, va_K.moved (u := U) (U := U.calling g mk a) (Vm.Alike.refl U.vm) q.2.2.2.2.1, ⟨va_AO.moved (u := U) (U := U.calling g mk a) (Vm.Alike.refl U.vm) q.2.2.2.2.2.1, va_AO.moved (u := U) (U := U.calling g mk a) (Vm.Alike.refl U.vm) q.2.2.2.2.2.2⟩⟩, fun U hU hW => ⟨rfl, by rw [hU], by rw [hU]; exact hP, hD.weaken (fun _ _ _ _ => trivial), va_K.moved hW.alike cx.2.2.2.2.2.2.2.1, nO_moved cx.2.2.2.2.2.2.2.2.1 hW⟩⟩ rfl (by simp) hl.1 (by simp [zev]) (lv_room (by simpa [Function.comp_def, zev_cat] using hcat)) hd ⟨hc1, hc2⟩
  intro T hT X
  obtain ⟨v1, st₀, t, T', L3, hh0, X', hL, e1, e2, ⟨⟨hv, ad1, ha1, hp1, hd1⟩, hz, hkk⟩, stp⟩ := hrun T hT X
  have hv1 : v1 = none := by injection hv
  subst hv1
  rw [hh0] at hz hkk
  have hsz : s.heap.size ≤ H.size := hS.1
  have hsub : ∀ q, nA ad L.length H.size q → nA ad0 n0 s.heap.size q := by
    intro q hq
    rcases hq with ⟨j, hj, rfl⟩ | hq
    · obtain ⟨d, hd3⟩ : ∃ d, L[j]? = some d := ⟨_, List.getElem?_eq_getElem hj⟩
      exact hD.2 j _ (zW_get (G := G) (ad := ad) (M := M) (R := R) hd3)
    · exact Or.inr (Nat.le_trans hsz hq)
  have hlv1 : lv.map (zep ad1) = lv.map (zep ad) := by
    apply List.map_congr_left
    intro q hq
    have h7 := List.all_eq_true.mp hlv q hq
    obtain ⟨q1, q2⟩ := q
    cases q2 with
    | ref j =>
      have : j < L.length := by simpa [nRef, Nat.blt_eq] using h7
      simp [zep, zev, ha1 j this]
    | _ => rfl
  have hst1 : st.map (zev ad1) = st.map (zev ad) := by
    apply List.map_congr_left
    intro q hq
    have h7 := List.all_eq_true.mp hst q hq
    cases q with
    | ref j =>
      have : j < L.length := by simpa [nRef, Nat.blt_eq] using h7
      simp [zev, ha1 j this]
    | _ => rfl
  have hfin := h p e s m args below meth c T'.heap (locs ++ L3) ls ad1 ad0 cx (fun j hj => (ha1 j (Nat.lt_of_lt_of_le hj hn0)).trans (h0 j hj)) (hw2 hw) (by rw [e1]; exact hp1) (hd1.weaken (fun _ _ _ hq => hsub _ hq))
    ⟨Nat.le_trans hS.1 (by rw [e1]; exact hz), fun q h1 h2 => by rw [e1, hkk q (Nat.lt_of_lt_of_le h1 hS.1) (fun z => h2 (hsub q z))]; exact hS.2.1 q h1 h2, fun q hq => by
      rcases List.mem_append.mp hq with h | h
      · exact hS.2.2 q h
      · exact hsub _ (hL q h)⟩ (by rw [hlv1]; exact hl)
  rw [hst1] at hfin
  obtain ⟨t2, a1, b1⟩ := hfin T' rfl X'
  exact ⟨t2, stp t2 a1, b1⟩
theorem n_vret (hd : decode cc pc = .ok (.return_, 1)) (h1 : n1 = mc) (h2 : n2 = ms) (hL : L = L1) (hM : M = M1) (hR : R = R1) : nV l G k mc ms yn cc nL n0 L1 M1 R1 pc lv [] L M R n1 n2 := by
  intro p e s m args below meth c H locs ls ad ad0 cx h0 hw hP hD hS hl
  subst h1; subst h2; subst hL; subst hM; subst hR
  exact W.vret cx.1 cx.2.1 cx.2.2.2.1 (fun t ht _ => ⟨⟨rfl, ad, h0, by rw [ht]; exact hP, hD⟩, hS.F ht⟩) hS.2.2 hd cx.2.2.2.2.1
theorem n_sub {lv2 : List (Nat × Value)} (h : nV l G k mc ms yn cc nL n0 L1 M1 R1 pc lv2 st L M R n1 n2) (hs : lv2.map (fun q => zlk lv q.1) = lv2.map (fun q => some q.2)) : nV l G k mc ms yn cc nL n0 L1 M1 R1 pc lv st L M R n1 n2 := by
  intro p e s m args below meth c H locs ls ad ad0 cx h0 hw hP hD hS hl
  refine h p e s m args below meth c H locs ls ad ad0 cx h0 hw hP hD hS ⟨hl.1, hl.2.1, fun q hq => ?_⟩
  obtain ⟨q0, hq0, rfl⟩ := List.mem_map.mp hq
  have h1 : zlk lv q0.1 = some q0.2 := List.map_inj_left.mp hs q0 hq0
  exact zlk_has hl h1
end nRows
