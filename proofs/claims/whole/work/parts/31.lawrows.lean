/-! THE LAW's OWN JUDGEMENT: both worlds, the script -/
def lad (b : Nat) (adX adY : Nat → Nat) (j : Nat) : Nat := if j = 0 then b else if j = 1 then adX 0 else adY 0
def lCx (p : Program) (s : State) (m : MethodId) (meth : Method) (c : Code) (G : zG) (b L : Nat) (xs : Nat → Int32) (adX adY : Nat → Nat) : Prop :=
  p.tables.exec = Jvm.exec ∧ c.code = code ∧ c.maxLocals = 4 ∧ meth.sig.returnType = ret ∧ meth.locks = false ∧ s.vm.findClass R_law = some m.cls ∧ (∀ w ∈ lw_tbl, w.before #[Value.ref b] s = true) ∧ va_K G.1 vwCl (zT G) s ∧ va_X b L xs s s.heap ∧ b < s.heap.size ∧ (zS adX zLX s ∧ zS adY zLY s) ∧ (∀ i j, i < 63 → j < 29 → adX i ≠ adY j) ∧ (∀ i, i < 63 → s.heap.size ≤ adX i) ∧ (∀ i, i < 29 → s.heap.size ≤ adY i)
section lRows
variable {p : Program} {l : Launch} {e : Env} {s : State} {m : MethodId} {below : List Frame} {meth : Method} {c : Code} {G : zG} {b L : Nat} {xs : Nat → Int32} {adX adY : Nat → Nat} {n1 n2 : Nat}
def lV (p : Program) (l : Launch) (e : Env) (s : State) (m : MethodId) (below : List Frame) (meth : Method) (c : Code) (G : zG) (b : Nat) (adX adY : Nat → Nat) (n1 n2 : Nat) (pc : Nat) (lv : List (Nat × Value)) (st : List Value) (Mx My : zM) : Prop :=
  ∀ (H : Heap) (locs : List Loc) (ls : Array Slot), (va_P G.1 vwCl (zW G adX zLX Mx zRX) H ∧ va_D (zA adX zLX) (zW G adX zLX Mx zRX)) → (va_P G.1 vwCl (zW G adY zLY My zRY) H ∧ va_D (zA adY zLY) (zW G adY zLY My zRY)) → va_S (fun q => s.heap.size ≤ q) s.heap H locs → lv_has ls 4 (lv.map (zep (lad b adX adY))) →
    W p l e room_1 s m #[Value.ref b] below meth c H locs n1 n2 (lw_Z below #[Value.ref b] s) (F0 m pc ls (st.map (zev (lad b adX adY))))
variable {pc : Nat} {lv : List (Nat × Value)} {st : List Value} {Mx My : zM}
theorem l_iconst {n : Int} (v : Int32) (C : lCx p s m meth c G b L xs adX adY) (hd : decode code pc = .ok (.iconst n, 1)) (hv : Int32.ofInt n = v) (h : lV p l e s m below meth c G b adX adY n1 n2 (pc + 1) lv (.int v :: st) Mx My) : lV p l e s m below meth c G b adX adY n1 n2 pc lv st Mx My := fun H locs ls hX hY hS hl => lv_iconst C.1 C.2.1 hd hv (h H locs ls hX hY hS hl)
theorem l_bipush {n : Int} (v : Int32) (C : lCx p s m meth c G b L xs adX adY) (hd : decode code pc = .ok (.bipush n, 2)) (hv : (Int8.ofInt n).toInt32 = v) (h : lV p l e s m below meth c G b adX adY n1 n2 (pc + 2) lv (.int v :: st) Mx My) : lV p l e s m below meth c G b adX adY n1 n2 pc lv st Mx My := fun H locs ls hX hY hS hl => lv_bipush C.1 C.2.1 hd hv (h H locs ls hX hY hS hl)
theorem l_iload_n {q : Fin 4} {x : Int32} (C : lCx p s m meth c G b L xs adX adY) (hd : decode code pc = .ok (.iload_n q, 1)) (hi : zlk lv q = some (.int x)) (h : lV p l e s m below meth c G b adX adY n1 n2 (pc + 1) lv (.int x :: st) Mx My) : lV p l e s m below meth c G b adX adY n1 n2 pc lv st Mx My := fun H locs ls hX hY hS hl => lv_iload_n C.1 C.2.1 hd rfl (zlk_has hl hi) (h H locs ls hX hY hS hl)
theorem l_aload_n {q : Fin 4} {x : Nat} (C : lCx p s m meth c G b L xs adX adY) (hd : decode code pc = .ok (.aload_n q, 1)) (hi : zlk lv q = some (.ref x)) (h : lV p l e s m below meth c G b adX adY n1 n2 (pc + 1) lv (.ref x :: st) Mx My) : lV p l e s m below meth c G b adX adY n1 n2 pc lv st Mx My := fun H locs ls hX hY hS hl => lv_aload_n C.1 C.2.1 hd rfl (zlk_has hl hi) (h H locs ls hX hY hS hl)
theorem l_istore_n {q : Fin 4} {x : Int32} (C : lCx p s m meth c G b L xs adX adY) (hd : decode code pc = .ok (.istore_n q, 1)) (hn : (q : Nat) < 4) (h : lV p l e s m below meth c G b adX adY n1 n2 (pc + 1) (zst lv q (.int x)) st Mx My) : lV p l e s m below meth c G b adX adY n1 n2 pc lv (.int x :: st) Mx My := fun H locs ls hX hY hS hl => lv_istore_n C.1 C.2.1 hd rfl hl hn (zst_map (v := .int x)) (fun ls' hl' => h H locs ls' hX hY hS hl')
theorem l_iinc {i : Nat} {n : Int} {x : Int32} (w : Int32) (C : lCx p s m meth c G b L xs adX adY) (hd : decode code pc = .ok (.iinc i n, 3)) (hi : zlk lv i = some (.int x)) (hw : Int32.ofInt n = w) (hn : i < 4) (h : lV p l e s m below meth c G b adX adY n1 n2 (pc + 3) (zst lv i (.int (x + w))) st Mx My) : lV p l e s m below meth c G b adX adY n1 n2 pc lv st Mx My := by
  intro H locs ls hX hY hS hl
  obtain ⟨q, hq⟩ := zlk_at hi
  exact lv_iinc (k := q) (x := x) (v := x + w) C.1 C.2.1 hd hl (by rw [List.getElem?_map, hq]; rfl) (by rw [hw]) hn (zst_map (v := .int (x + w))) (fun ls' hl' => h H locs ls' hX hY hS hl')
theorem l_iadd {x y : Int32} (C : lCx p s m meth c G b L xs adX adY) (hd : decode code pc = .ok (.iadd, 1)) (h : lV p l e s m below meth c G b adX adY n1 n2 (pc + 1) lv (.int (x + y) :: st) Mx My) : lV p l e s m below meth c G b adX adY n1 n2 pc lv (.int y :: .int x :: st) Mx My := fun H locs ls hX hY hS hl => lv_iadd C.1 C.2.1 hd (h H locs ls hX hY hS hl)
theorem l_isub {x y : Int32} (C : lCx p s m meth c G b L xs adX adY) (hd : decode code pc = .ok (.isub, 1)) (h : lV p l e s m below meth c G b adX adY n1 n2 (pc + 1) lv (.int (x - y) :: st) Mx My) : lV p l e s m below meth c G b adX adY n1 n2 pc lv (.int y :: .int x :: st) Mx My := fun H locs ls hX hY hS hl => lv_isub C.1 C.2.1 hd (h H locs ls hX hY hS hl)
theorem l_iand {x y : Int32} (C : lCx p s m meth c G b L xs adX adY) (hd : decode code pc = .ok (.iand, 1)) (h : lV p l e s m below meth c G b adX adY n1 n2 (pc + 1) lv (.int (x &&& y) :: st) Mx My) : lV p l e s m below meth c G b adX adY n1 n2 pc lv (.int y :: .int x :: st) Mx My := fun H locs ls hX hY hS hl => lv_iand C.1 C.2.1 hd (h H locs ls hX hY hS hl)
theorem l_i2l {x : Int32} (C : lCx p s m meth c G b L xs adX adY) (hd : decode code pc = .ok (.i2l, 1)) (h : lV p l e s m below meth c G b adX adY n1 n2 (pc + 1) lv (.long x.toInt64 :: st) Mx My) : lV p l e s m below meth c G b adX adY n1 n2 pc lv (.int x :: st) Mx My := fun H locs ls hX hY hS hl => lv_i2l C.1 C.2.1 hd rfl (h H locs ls hX hY hS hl)
theorem l_lshl {x : Int64} {y : Int32} (C : lCx p s m meth c G b L xs adX adY) (hd : decode code pc = .ok (.lshl, 1)) (h : lV p l e s m below meth c G b adX adY n1 n2 (pc + 1) lv (.long (zlshl x y) :: st) Mx My) : lV p l e s m below meth c G b adX adY n1 n2 pc lv (.int y :: .long x :: st) Mx My := fun H locs ls hX hY hS hl => lv_lshl (v := zlshl x y) C.1 C.2.1 hd rfl (h H locs ls hX hY hS hl)
theorem l_land {x y : Int64} (C : lCx p s m meth c G b L xs adX adY) (hd : decode code pc = .ok (.land, 1)) (h : lV p l e s m below meth c G b adX adY n1 n2 (pc + 1) lv (.long (x &&& y) :: st) Mx My) : lV p l e s m below meth c G b adX adY n1 n2 pc lv (.long y :: .long x :: st) Mx My := fun H locs ls hX hY hS hl => lv_land C.1 C.2.1 hd (h H locs ls hX hY hS hl)
theorem l_lor {x y : Int64} (C : lCx p s m meth c G b L xs adX adY) (hd : decode code pc = .ok (.lor, 1)) (h : lV p l e s m below meth c G b adX adY n1 n2 (pc + 1) lv (.long (x ||| y) :: st) Mx My) : lV p l e s m below meth c G b adX adY n1 n2 pc lv (.long y :: .long x :: st) Mx My := fun H locs ls hX hY hS hl => lv_lor C.1 C.2.1 hd (h H locs ls hX hY hS hl)
theorem l_ldc2 {i : Nat} (v : Int64) (C : lCx p s m meth c G b L xs adX adY) (hw : Cond.constantLong R_law i v ∈ lw_tbl) (hd : decode code pc = .ok (.ldc2_w i, 3)) (h : lV p l e s m below meth c G b adX adY n1 n2 (pc + 3) lv (.long v :: st) Mx My) : lV p l e s m below meth c G b adX adY n1 n2 pc lv st Mx My := fun H locs ls hX hY hS hl => lv_ldc2 C.1 C.2.1 C.2.2.2.2.2.1 (C.2.2.2.2.2.2.1 _ hw) hd (h H locs ls hX hY hS hl)
theorem l_goto {off : Int} (tgt : Nat) (C : lCx p s m meth c G b L xs adX adY) (hd : decode code pc = .ok (.goto off, 3)) (ht : (pc : Int) + off = (tgt : Int)) (h : lV p l e s m below meth c G b adX adY n1 n2 tgt lv st Mx My) : lV p l e s m below meth c G b adX adY n1 n2 pc lv st Mx My := fun H locs ls hX hY hS hl => lv_goto (tgt := tgt) C.1 C.2.1 hd ht (h H locs ls hX hY hS hl)
theorem l_icmp_eq {x : Int32} {off : Int} (tgt : Nat) (C : lCx p s m meth c G b L xs adX adY) (hd : decode code pc = .ok (.if_icmp .eq off, 3)) (ht : (pc : Int) + off = (tgt : Int)) (h : lV p l e s m below meth c G b adX adY n1 n2 tgt lv st Mx My) : lV p l e s m below meth c G b adX adY n1 n2 pc lv (.int x :: .int x :: st) Mx My := fun H locs ls hX hY hS hl => lv_icmp_eq (tgt := tgt) C.1 C.2.1 hd ht (fun _ => h H locs ls hX hY hS hl) (fun hn => absurd rfl hn)
theorem l_icmp_gt {x y : Int32} {off : Int} (tgt : Nat) (C : lCx p s m meth c G b L xs adX adY) (hd : decode code pc = .ok (.if_icmp .gt off, 3)) (ht : (pc : Int) + off = (tgt : Int)) (h1 : y < x → lV p l e s m below meth c G b adX adY n1 n2 tgt lv st Mx My) (h2 : ¬ y < x → lV p l e s m below meth c G b adX adY n1 n2 (pc + 3) lv st Mx My) : lV p l e s m below meth c G b adX adY n1 n2 pc lv (.int y :: .int x :: st) Mx My := fun H locs ls hX hY hS hl => lv_icmp_gt (tgt := tgt) C.1 C.2.1 hd ht (fun hc => h1 hc H locs ls hX hY hS hl) (fun hc => h2 hc H locs ls hX hY hS hl)
theorem l_slen (C : lCx p s m meth c G b L xs adX adY) (hd : decode code pc = .ok (.arraylength, 1)) (h : lV p l e s m below meth c G b adX adY n1 n2 (pc + 1) lv (.int (nI L) :: st) Mx My) : lV p l e s m below meth c G b adX adY n1 n2 pc lv (.ref 0 :: st) Mx My := fun H locs ls hX hY hS hl => va_slen C.1 C.2.1 C.2.2.2.2.2.2.2.2.1 C.2.2.2.2.2.2.2.2.2.1 (Nat.not_le.mpr C.2.2.2.2.2.2.2.2.2.1) hS hd (h H locs ls hX hY hS hl)
theorem l_sld {x : Int32} (q : Nat) (C : lCx p s m meth c G b L xs adX adY) (hx : x = nI q) (hq : q < L) (hL : L < 2 ^ 31) (hd : decode code pc = .ok (.iaload, 1)) (h : lV p l e s m below meth c G b adX adY n1 n2 (pc + 1) lv (.int (xs q) :: st) Mx My) : lV p l e s m below meth c G b adX adY n1 n2 pc lv (.int x :: .ref 0 :: st) Mx My := by
  intro H locs ls hX hY hS hl
  subst hx
  refine va_sld C.1 C.2.1 C.2.2.2.2.2.2.2.2.1 C.2.2.2.2.2.2.2.2.2.1 (Nat.not_le.mpr C.2.2.2.2.2.2.2.2.2.1) hS (vp_in_nI hq hL) hd ?_
  rw [nI_clamp (by omega)]
  exact h H locs ls hX hY hS hl
theorem l_tsw {x : Int32} {dflt hi : Int} {offs : Array Int} {len dt : Nat} (ts : List Nat) (C : lCx p s m meth c G b L xs adX adY) (hd : decode code pc = .ok (.tableswitch dflt 0 hi offs, len)) (hhi : hi + 1 = (ts.length : Int)) (hsm : ts.length < 1000) (ho : offs.toList.map (fun o : Int => (pc : Int) + o) = ts.map (fun t : Nat => (t : Int))) (hdt : (pc : Int) + dflt = (dt : Int))
    (h : ∀ (i tgt : Nat), ts[i]? = some tgt → lV p l e s m below meth c G b adX adY n1 n2 tgt lv st Mx My) (h2 : lV p l e s m below meth c G b adX adY n1 n2 dt lv st Mx My) : lV p l e s m below meth c G b adX adY n1 n2 pc lv (.int x :: st) Mx My := by
  intro H locs ls hX hY hS hl
  by_cases hx : x.toInt < 0 ∨ hi < x.toInt
  · exact lv_tableOut (tgt := dt) C.1 C.2.1 hd hx hdt (h2 H locs ls hX hY hS hl)
  · have h1 : ¬ x.toInt < 0 := fun q => hx (Or.inl q)
    have h3 : ¬ hi < x.toInt := fun q => hx (Or.inr q)
    obtain ⟨i, hi1⟩ : ∃ i : Nat, x.toInt = (i : Int) := ⟨x.toInt.toNat, by omega⟩
    have hil : i < ts.length := by omega
    obtain ⟨tgt, htg⟩ : ∃ t, ts[i]? = some t := ⟨_, List.getElem?_eq_getElem hil⟩
    have ho2 : (offs.toList.map (fun o : Int => (pc : Int) + o))[i]? = some ((tgt : Nat) : Int) := by rw [ho, List.getElem?_map, htg]; rfl
    rw [List.getElem?_map] at ho2
    obtain ⟨off, hoff, hoe⟩ := Option.map_eq_some_iff.mp ho2
    refine lv_tableIn (off := off) (tgt := tgt) C.1 C.2.1 hd h1 h3 ?_ hoe (h i tgt htg H locs ls hX hY hS hl)
    rw [← Array.getElem?_toList, show (x.toInt - 0).toNat = i by omega]
    exact hoff
theorem l_sub {lv2 : List (Nat × Value)} (h : lV p l e s m below meth c G b adX adY n1 n2 pc lv2 st Mx My) (hs : lv2.map (fun q => zlk lv q.1) = lv2.map (fun q => some q.2)) : lV p l e s m below meth c G b adX adY n1 n2 pc lv st Mx My := by
  intro H locs ls hX hY hS hl
  refine h H locs ls hX hY hS ⟨hl.1, hl.2.1, fun q hq => ?_⟩
  obtain ⟨q0, hq0, rfl⟩ := List.mem_map.mp hq
  have h1 : zlk lv q0.1 = some q0.2 := List.map_inj_left.mp hs q0 hq0
  exact zlk_has hl h1
theorem l_ret (C : lCx p s m meth c G b L xs adX adY) (h1 : n1 ≤ 600000) (h2 : n2 ≤ 7302250) (hd : decode code pc = .ok (.ireturn, 1)) : lV p l e s m below meth c G b adX adY n1 n2 pc lv [.int 1] Mx My := by
  intro H locs ls hX hY hS hl
  refine va_forget hS.2.2 ?_
  exact W.widen h1 h2 (lw_ret C.1 C.2.1 C.2.2.2.1 C.2.2.2.2.1 hd)
theorem l_wid (k1 k2 : Nat) (h1 : n1 ≤ k1) (h2 : n2 ≤ k2) (h : lV p l e s m below meth c G b adX adY k1 k2 pc lv st Mx My) : lV p l e s m below meth c G b adX adY n1 n2 pc lv st Mx My := fun H locs ls hX hY hS hl => W.widen h1 h2 (h H locs ls hX hY hS hl)
theorem zS_moved2 {L : List zD} {ad : Nat → Nat} {s U : State} {H : Heap} (h : zS ad L s) (hq : ∀ a : Nat, a < s.heap.size → H[a]? = s.heap[a]?) (hU : U.heap = H) (hW : s.WarmedH U.vm) : zS ad L U := by
  obtain ⟨v, hv, hF⟩ := h.2.2.2
  refine ⟨?_, fun i hi => (h.2.1 i hi).warm hW, ?_, v, hv, ?_⟩
  · exact (vk_S.moved hW.alike (h.1)).kept (fun a h1 h2 => by rw [hU]; exact hq a h1)
  · exact (va_Z.moved hW.alike h.2.2.1).kept (fun a h1 h2 => by rw [hU]; exact hq a h1)
  · exact (va_Z.moved hW.alike hF).kept (fun a h1 h2 => by rw [hU]; exact hq a h1)
theorem l_call0 {L1 : List zD} {R1 : zR} {ad : Nat → Nat} {a : Array Value} {H : Heap} {locs : List Loc} {ls : Array Slot} {v : Option Value} {M1 : zM} {rest st0 : List Value} {Q : State → Prop} {pc : Nat}
    (hr : va_Run p l e room_1 s m #[Value.ref b] below meth c H locs n1 n2 0 0 (F0 m pc ls st0) rest (zQ G ad L1 R1 v M1 a) (zA ad L1)) (hA : ∀ q, zA ad L1 q → s.heap.size ≤ q) (hS : va_S (fun q => s.heap.size ≤ q) s.heap H locs)
    (kk : ∀ (H1 : Heap) (locs1 : List Loc), va_P G.1 vwCl (zW G ad L1 M1 R1) H1 → (∀ q : Nat, q < H.size → ¬ zA ad L1 q → H1[q]? = H[q]?) → va_S (fun q => s.heap.size ≤ q) s.heap H1 locs1 → W p l e room_1 s m #[Value.ref b] below meth c H1 locs1 n1 n2 Q (F0 m (pc + 3) ls ((v.map (zev ad)).toList ++ rest))) : W p l e room_1 s m #[Value.ref b] below meth c H locs n1 n2 Q (F0 m pc ls st0) := by
  intro T hT X
  obtain ⟨v1, st₀, t, T', L2, h0, X', hL, e1, e2, ⟨⟨hv, hp⟩, hz, hk⟩, st⟩ := hr T hT X
  have hv1 : v1 = v.map (zev ad) := by injection hv
  subst hv1
  rw [h0] at hz hk
  obtain ⟨t2, a1, b1⟩ := kk T'.heap (locs ++ L2) (by rw [e1]; exact hp) (fun q h1 h2 => by rw [e1]; exact hk q h1 h2)
    ⟨Nat.le_trans hS.1 (by rw [e1]; exact hz), fun q h1 h2 => by rw [e1, hk q (Nat.lt_of_lt_of_le h1 hS.1) (fun z => h2 (hA q z))]; exact hS.2.1 q h1 h2, fun q hq => by
      rcases List.mem_append.mp hq with h | h
      · exact hS.2.2 q h
      · exact hA _ (hL q h)⟩ T' rfl X'
  exact ⟨t2, st t2 a1, b1⟩
theorem lW_kept {L1 : List zD} {R1 : zR} {ad : Nat → Nat} {M1 : zM} {H H1 : Heap} {A : Nat → Prop} (hP : va_P G.1 vwCl (zW G ad L1 M1 R1) H) (hk : ∀ q : Nat, q < H.size → ¬ A q → H1[q]? = H[q]?) (hd : ∀ j, j < L1.length → ¬ A (ad j)) : va_P G.1 vwCl (zW G ad L1 M1 R1) H1 := by
  refine hP.kept (fun i q hq => ?_)
  have hlt := (hP i q hq).lt
  simp only [zW, List.getElem?_mapIdx] at hq
  obtain ⟨d, hd2, rfl⟩ := Option.map_eq_some_iff.mp hq
  exact hk _ hlt (hd i (List.getElem?_eq_some_iff.mp hd2).1)
theorem l_callX {y : MethodName} {cc1 : ByteArray} {nL1 k1 idx : Nat} {As : List Value} {r : Int32} {res1 : Option (Int32 × zM)} {M1 : zM} (C : lCx p s m meth c G b L xs adX adY)
    (hc : zC eI l G zLX zRX k1 y cc1 nL1 (some .int) (.ref 0 :: As) Mx res1) (hres : res1 = some (r, M1)) (hy : zcV y cc1 nL1 (some .int) As.length) (hC : y.cls = RX9) (hAs : ∀ ad : Nat → Nat, As.map (zev ad) = As) (hw : Cond.methodLink R_law idx y ∈ zbig) (hk : k1 + 1 ≤ 2048 ∧ 8 + (nL1 + 11) + 64 * k1 ≤ 84000) (hst : (st.map fun v => v.category).sum ≤ 8) (hd : decode code pc = .ok (.invokevirtual idx, 3))
    (h : lV p l e s m below meth c G b adX adY n1 n2 (pc + 3) lv (.int r :: st) M1 My) (hn : n1 ≤ 600000 ∧ n2 ≤ 7302250) : lV p l e s m below meth c G b adX adY n1 n2 pc lv (As.reverse ++ .ref 1 :: st) Mx My := by
  intro H locs ls hX hY hS hl
  have hM := hc r M1 hres adX
  have hts : ∀ w ∈ zbig, w.before #[Value.ref b] s = true := fun w hw => C.2.2.2.2.2.2.1 w (List.mem_filter.mp hw).1
  have hq : ∀ a : Nat, a < s.heap.size → H[a]? = s.heap[a]? := fun a ha => hS.2.1 a ha (Nat.not_le.mpr ha)
  have hcb : CallB room_1 s #[Value.ref b] R_law idx y cc1 nL1 (some .int) (zws y cc1 nL1 (some .int)) (zrm k1) 0 0 As.length := by
    refine callB_of As.length hts (zgoodIn (fun w hw => ?_)) rfl rfl rfl (hts _ hy.1.1) (hts _ hw) hy.1.2.2 hk
    rcases List.mem_cons.mp hw with rfl | hw
    · exact hy.1.2.1
    · exact hw
  have hrc := va_recv C.2.2.2.2.2.2.2.1 hX.1 zk9.1 (zW_obj (G := G) (ad := adX) (M := Mx) (R := zRX) zk9.2.2.2.2.1 lx_0)
  dsimp only at hrc
  rw [← hC] at hrc
  refine l_call0 (v := eI r) (M1 := M1) (va_runV (As := As) (b := adX 0) (rest := st.map (zev (lad b adX adY))) (Ts := zbig) ⟨C.1, C.2.1, C.2.2.1, C.2.2.2.2.2.1, hts⟩ hM ⟨hcb, hts _ hy.2.1, hts _ hy.2.2⟩
    ⟨zPre_blind, hrc, fun U hU hW => ⟨by rw [List.map_cons, hAs]; rfl, by rw [hU]; exact hX.1, hX.2, va_K.moved hW.alike C.2.2.2.2.2.2.2.1, zS_moved2 C.2.2.2.2.2.2.2.2.2.2.1.1 hq hU hW⟩⟩ rfl rfl hl.1 (by rw [List.map_append, List.map_reverse, hAs]; rfl) (lv_room (by simpa [Function.comp_def, zev_cat] using hst)) hd hn)
    (fun q hq => by obtain ⟨j, hj, rfl⟩ := hq; exact C.2.2.2.2.2.2.2.2.2.2.2.2.1 j hj) hS (fun H1 locs1 hP1 hk1 hS1 => ?_)
  exact h H1 locs1 ls ⟨hP1, zD_any hX.2⟩ ⟨lW_kept hY.1 hk1 (fun j hj hz => by obtain ⟨i, hi, he⟩ := hz; exact C.2.2.2.2.2.2.2.2.2.2.2.1 i j hi hj he.symm), hY.2⟩ hS1 hl
theorem l_callY {y : MethodName} {cc1 : ByteArray} {nL1 k1 idx : Nat} {As : List Value} {r : Int32} {res1 : Option (Int32 × zM)} {M1 : zM} (C : lCx p s m meth c G b L xs adX adY)
    (hc : zC eI l G zLY zRY k1 y cc1 nL1 (some .int) (.ref 0 :: As) My res1) (hres : res1 = some (r, M1)) (hy : zcV y cc1 nL1 (some .int) As.length) (hC : y.cls = RX10) (hAs : ∀ ad : Nat → Nat, As.map (zev ad) = As) (hw : Cond.methodLink R_law idx y ∈ zbig) (hk : k1 + 1 ≤ 2048 ∧ 8 + (nL1 + 11) + 64 * k1 ≤ 84000) (hst : (st.map fun v => v.category).sum ≤ 8) (hd : decode code pc = .ok (.invokevirtual idx, 3))
    (h : lV p l e s m below meth c G b adX adY n1 n2 (pc + 3) lv (.int r :: st) Mx M1) (hn : n1 ≤ 600000 ∧ n2 ≤ 7302250) : lV p l e s m below meth c G b adX adY n1 n2 pc lv (As.reverse ++ .ref 2 :: st) Mx My := by
  intro H locs ls hX hY hS hl
  have hM := hc r M1 hres adY
  have hts : ∀ w ∈ zbig, w.before #[Value.ref b] s = true := fun w hw => C.2.2.2.2.2.2.1 w (List.mem_filter.mp hw).1
  have hq : ∀ a : Nat, a < s.heap.size → H[a]? = s.heap[a]? := fun a ha => hS.2.1 a ha (Nat.not_le.mpr ha)
  have hcb : CallB room_1 s #[Value.ref b] R_law idx y cc1 nL1 (some .int) (zws y cc1 nL1 (some .int)) (zrm k1) 0 0 As.length := by
    refine callB_of As.length hts (zgoodIn (fun w hw => ?_)) rfl rfl rfl (hts _ hy.1.1) (hts _ hw) hy.1.2.2 hk
    rcases List.mem_cons.mp hw with rfl | hw
    · exact hy.1.2.1
    · exact hw
  have hrc := va_recv C.2.2.2.2.2.2.2.1 hY.1 zk10.1 (zW_obj (G := G) (ad := adY) (M := My) (R := zRY) zk10.2.2.2.2.1 ly_0)
  dsimp only at hrc
  rw [← hC] at hrc
  refine l_call0 (v := eI r) (M1 := M1) (va_runV (As := As) (b := adY 0) (rest := st.map (zev (lad b adX adY))) (Ts := zbig) ⟨C.1, C.2.1, C.2.2.1, C.2.2.2.2.2.1, hts⟩ hM ⟨hcb, hts _ hy.2.1, hts _ hy.2.2⟩
    ⟨zPre_blind, hrc, fun U hU hW => ⟨by rw [List.map_cons, hAs]; rfl, by rw [hU]; exact hY.1, hY.2, va_K.moved hW.alike C.2.2.2.2.2.2.2.1, zS_moved2 C.2.2.2.2.2.2.2.2.2.2.1.2 hq hU hW⟩⟩ rfl rfl hl.1 (by rw [List.map_append, List.map_reverse, hAs]; rfl) (lv_room (by simpa [Function.comp_def, zev_cat] using hst)) hd hn)
    (fun q hq => by obtain ⟨j, hj, rfl⟩ := hq; exact C.2.2.2.2.2.2.2.2.2.2.2.2.2 j hj) hS (fun H1 locs1 hP1 hk1 hS1 => ?_)
  exact h H1 locs1 ls ⟨lW_kept hX.1 hk1 (fun j hj hz => by obtain ⟨i, hi, he⟩ := hz; exact C.2.2.2.2.2.2.2.2.2.2.2.1 j i hj hi he), hX.2⟩ ⟨hP1, zD_any hY.2⟩ hS1 hl

end lRows
