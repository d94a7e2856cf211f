/-! ===== THE FLAT WORLD: cells by number, ints by (cell, place), references by number ===== -/
abbrev zD : Type := Nat × Nat
abbrev zM : Type := Nat → Nat → Int32
abbrev zR : Type := Nat → Nat → Option Nat
abbrev zG : Type := va_G × (Nat → ClassId)
def zT (G : zG) : List (ClassId × FieldType) := [(G.2 0, .int), (G.2 1, .byte), (G.2 2, .boolean), (G.2 3, .object "NameNets$Names"), (G.2 4, .object "NameNets$Page")]
def zB (t : Nat) : List Bool := match t with
  | 0 => [false, false, false, false, false]
  | 1 => [false, false, false, false, false, false, false, false, false, false]
  | 2 => [true, true, true, false, false]
  | 3 => [true, true, true, false, false, false]
  | 4 => [true, false, false]
  | 5 => [false, false, false, true, true, true, true, true]
  | 6 => [false, false, true, true, true, true, true, false, false, false, false, true, false]
  | 7 => [false, false, true]
  | 8 => [false, true, true, false, false, false, false, false, false, false, true, true, false, true]
  | 9 => [false, false, false, false, false, false, false, false]
  | _ => [true, true, false, false, false, false, false, false, false, true, true, false, false, false, false, false, false, false, false, false, false, false, false, false, false, false, false, false, false, true, true, true, true, true, true, true, false, false, true, false]
def zF (ad : Nat → Nat) (bs : List Bool) (mi : Nat → Int32) (mr : Nat → Option Nat) : List Value := bs.mapIdx (fun k b => if b = true then .int (mi k) else va_rf ((mr k).map ad))
def zE (G : zG) (ad : Nat → Nat) (d : zD) (mi : Nat → Int32) (mr : Nat → Option Nat) : va_E :=
  if d.1 = 100 then .inl (G.2 0, d.2, .inl mi) else if d.1 = 101 then .inl (G.2 1, d.2, .inl mi) else if d.1 = 102 then .inl (G.2 2, d.2, .inl mi)
  else if d.1 = 103 then .inl (G.2 3, d.2, .inr (.inr (.inr (.inr (fun i => (mr i).map ad))))) else if d.1 = 104 then .inl (G.2 4, d.2, .inr (.inr (.inr (.inr (fun i => (mr i).map ad)))))
  else .inr (d.1, zF ad (zB d.1) mi mr)
def zW (G : zG) (ad : Nat → Nat) (L : List zD) (M : zM) (R : zR) : va_W := L.mapIdx (fun j d => (ad j, zE G ad d (M j) (R j)))
def zs (M : zM) (j k : Nat) (x : Int32) : zM := fun j' k' => if j' = j ∧ k' = k then x else M j' k'
theorem zs_row (M : zM) (j k : Nat) (x : Int32) : zs M j k x j = upd (M j) k x := by
  funext i
  by_cases h : i = k <;> simp [zs, upd, h]
theorem zs_other (M : zM) {j j' : Nat} (k : Nat) (x : Int32) (h : ¬ j' = j) : zs M j k x j' = M j' := by
  funext i
  simp [zs, h]
theorem zs_at (M : zM) (j k : Nat) (x : Int32) (j' k' : Nat) : zs M j k x j' k' = if j' = j ∧ k' = k then x else M j' k' := rfl
theorem zW_get {G : zG} {ad : Nat → Nat} {L : List zD} {M : zM} {R : zR} {j : Nat} {d : zD} (h : L[j]? = some d) : (zW G ad L M R)[j]? = some (ad j, zE G ad d (M j) (R j)) := by
  simp [zW, List.getElem?_mapIdx, h]
theorem zW_set {G : zG} {ad : Nat → Nat} {L : List zD} {M : zM} {R : zR} {j k : Nat} {x : Int32} {d : zD} {e : va_E} (h : L[j]? = some d) (he : e = zE G ad d (upd (M j) k x) (R j)) :
    (zW G ad L M R).set j (ad j, e) = zW G ad L (zs M j k x) R := by
  apply List.ext_getElem?
  intro i
  rw [List.getElem?_set]
  simp only [zW, List.getElem?_mapIdx, List.length_mapIdx]
  by_cases hij : j = i
  · subst hij
    have hlt : j < L.length := (List.getElem?_eq_some_iff.mp h).1
    rw [if_pos rfl, if_pos hlt, h, he, zs_row]; rfl
  · rw [if_neg hij, zs_other M k x (fun q => hij q.symm)]
theorem zF_get {ad : Nat → Nat} {bs : List Bool} {mi : Nat → Int32} {mr : Nat → Option Nat} {k : Nat} (h : bs[k]? = some true) : (zF ad bs mi mr)[k]? = some (.int (mi k)) := by
  simp [zF, List.getElem?_mapIdx, h]
theorem zF_getR {ad : Nat → Nat} {bs : List Bool} {mi : Nat → Int32} {mr : Nat → Option Nat} {k b : Nat} (h : bs[k]? = some false) (hr : mr k = some b) : (zF ad bs mi mr)[k]? = some (.ref (ad b)) := by
  simp [zF, List.getElem?_mapIdx, h, hr, va_rf]
theorem zF_set {ad : Nat → Nat} {bs : List Bool} {mi : Nat → Int32} {mr : Nat → Option Nat} {k : Nat} {x : Int32} (h : bs[k]? = some true) : (zF ad bs mi mr).set k (.int x) = zF ad bs (upd mi k x) mr := by
  apply List.ext_getElem?
  intro i
  rw [List.getElem?_set]
  simp only [zF, List.getElem?_mapIdx, List.length_mapIdx]
  by_cases hij : k = i
  · subst hij
    have hlt : k < bs.length := (List.getElem?_eq_some_iff.mp h).1
    rw [if_pos rfl, if_pos hlt, h]; simp [upd]
  · rw [if_neg hij]
    cases bs[i]? with
    | none => rfl
    | some b => simp [upd, show ¬ i = k from fun q => hij q.symm]
theorem zF_len {ad : Nat → Nat} {bs : List Bool} {mi : Nat → Int32} {mr : Nat → Option Nat} : (zF ad bs mi mr).length = bs.length := by simp [zF]
/-- values: a reference is a cell's number -/
def zev (ad : Nat → Nat) (v : Value) : Value := match v with
  | .ref j => .ref (ad j)
  | w => w
def zep (ad : Nat → Nat) (q : Nat × Value) : Nat × Value := (q.1, zev ad q.2)
theorem zev_cat (ad : Nat → Nat) (v : Value) : (zev ad v).category = v.category := by cases v <;> rfl
def zA (ad : Nat → Nat) (L : List zD) : Nat → Prop := fun q => ∃ j, j < L.length ∧ q = ad j
def zrm (k : Nat) : Room := { frames := k, cells := 0, slots := 0, locals := 64 * k }
def zbig : List Cond := lw_tbl.filter goodWord
def zws (yn : MethodName) (cc : ByteArray) (nL : Nat) (rt : Option FieldType) : List Cond := .code yn cc nL rt :: zbig
theorem zgoodIn {ws : List Cond} (h : ∀ w ∈ ws, w ∈ zbig) : GoodIn zbig ws := fun w hw => ⟨h w hw, good_of_word (List.mem_filter.mp (h w hw)).2⟩
/-! the String constants -/
def zlen : List Nat := [5, 6, 3, 6, 4]
def zbyt : List (List Int32) := [[97, 98, 111, 118, 101], [106, 111, 105, 110, 101, 100], [102, 97, 114], [112, 97, 114, 116, 101, 100], [110, 101, 120, 116]]
def ztxt (i : Nat) : String := match i with
  | 0 => "above"
  | 1 => "joined"
  | 2 => "far"
  | 3 => "parted"
  | _ => "next"
def zS (ad : Nat → Nat) (L : List zD) (U : State) : Prop :=
  vk_S 5 zlen zbyt (fun i => ad (1000 + i)) (fun i => ad (2000 + i)) (zA ad L) U U.heap ∧ (∀ i, i < 5 → vk_R "NameNets$Script" (84 + 2 * i) (ztxt i) (ad (1000 + i)) U) ∧ va_Z "java/lang/String" "COMPACT_STRINGS" "Z" (.int 1) (zA ad L) U U.heap ∧ ∃ v : Value, v.category = 1 ∧ va_Z "jdk/internal/util/Preconditions" "SIOOBE_FORMATTER" "Ljava/util/function/BiFunction;" (zev ad v) (zA ad L) U U.heap
/-- what every step of a method may use -/
def zCx (p : Program) (s : State) (m : MethodId) (args : Array Value) (meth : Method) (c : Code) (G : zG) (L : List zD) (ad : Nat → Nat) (yn : MethodName) (cc : ByteArray) (nL : Nat) (rt : Option FieldType) : Prop :=
  p.tables.exec = Jvm.exec ∧ c.code = cc ∧ c.maxLocals = nL ∧ meth.sig.returnType = rt ∧ meth.locks = false ∧ s.vm.findClass yn.cls = some m.cls ∧ (∀ w ∈ zbig, w.before args s = true) ∧ va_K G.1 vwCl (zT G) s ∧ zS ad L s
def zQ (G : zG) (ad : Nat → Nat) (L : List zD) (R : zR) (v : Option Value) (M : zM) : Array Value → State → Outcome → State → Prop := fun _ st o t =>
  (o = .returned (v.map (zev ad)) ∧ va_P G.1 vwCl (zW G ad L M R) t.heap) ∧ va_F (zA ad L) st t
/-- from here the method ends as res says, whenever res says something -/
def zV {ρ : Type} (emb : ρ → Option Value) (l : Launch) (G : zG) (L : List zD) (R : zR) (k : Nat) (yn : MethodName) (cc : ByteArray) (nL : Nat) (rt : Option FieldType) (pc : Nat) (lv : List (Nat × Value)) (st : List Value) (M : zM) (res : Option (ρ × zM)) : Prop :=
  ∀ (r : ρ) (M' : zM), res = some (r, M') → ∀ (p : Program) (e : Env) (s : State) (m : MethodId) (args : Array Value) (below : List Frame) (meth : Method) (c : Code) (H : Heap) (locs : List Loc) (ls : Array Slot) (ad : Nat → Nat),
    zCx p s m args meth c G L ad yn cc nL rt → va_P G.1 vwCl (zW G ad L M R) H → va_D (zA ad L) (zW G ad L M R) → va_S (zA ad L) s.heap H locs → lv_has ls nL (lv.map (zep ad)) →
    W p l e (zrm k) s m args below meth c H locs 0 0 (MQ below (zQ G ad L R (emb r) M') args s 0 0 (zA ad L)) (F0 m pc ls (st.map (zev ad)))
def zPre (G : zG) (L : List zD) (R : zR) (ad : Nat → Nat) (av : List Value) (M : zM) : Array Value → State → Prop := fun v U =>
  v = (av.map (zev ad)).toArray ∧ va_P G.1 vwCl (zW G ad L M R) U.heap ∧ va_D (zA ad L) (zW G ad L M R) ∧ va_K G.1 vwCl (zT G) U ∧ zS ad L U
/-- a method's contract -/
def zC {ρ : Type} (emb : ρ → Option Value) (l : Launch) (G : zG) (L : List zD) (R : zR) (k : Nat) (yn : MethodName) (cc : ByteArray) (nL : Nat) (rt : Option FieldType) (av : List Value) (M : zM) (res : Option (ρ × zM)) : Prop :=
  ∀ (r : ρ) (M' : zM), res = some (r, M') → ∀ ad : Nat → Nat, Met l yn (zws yn cc nL rt) (zrm k) (zPre G L R ad av M) (zQ G ad L R (emb r) M') 0 0 (zA ad L)
def eI : Int32 → Option Value := fun x => some (.int x)
def eV : Unit → Option Value := fun _ => none
def eR : Nat → Option Value := fun j => some (.ref j)
/-! the words of the functions -/
def zin (i : Int32) (n : Nat) : Bool := decide (0 ≤ i.toInt) && decide (i.toInt < n)
theorem zin_vp {i : Int32} {n : Nat} (h : zin i n = true) : vp_in i n := by
  rw [vp_in_iff]
  simpa [zin] using h
def rd {α : Type} (M : zM) (j n : Nat) (i : Int32) (K : Int32 → Option α) : Option α := if zin i n = true then K (M j i.toNatClampNeg) else none
def wr {α : Type} (M : zM) (j n : Nat) (i x : Int32) (K : zM → Option α) : Option α := if zin i n = true then K (zs M j i.toNatClampNeg x) else none
def wf {α : Type} (M : zM) (j k : Nat) (x : Int32) (K : zM → Option α) : Option α := K (zs M j k x)
def cl {ρ α : Type} (o : Option (ρ × zM)) (K : ρ → zM → Option α) : Option α := match o with
  | none => none
  | some q => K q.1 q.2
def zdiv {α : Type} (x y : Int32) (K : Int32 → Option α) : Option α := if y = 0 then none else K (x / y)
def zmod {α : Type} (x y : Int32) (K : Int32 → Option α) : Option α := if y = 0 then none else K (x - x / y * y)
def zshl (x y : Int32) : Int32 := x <<< (y &&& 31)
def zshr (x y : Int32) : Int32 := x >>> (y &&& 31)
def zush (x y : Int32) : Int32 := (x.toUInt32 >>> (y.toUInt32 &&& Int32.toUInt32 31)).toInt32
def zlshl (x : Int64) (y : Int32) : Int64 := x <<< (y.toInt64 &&& 63)
def zlshr (x : Int64) (y : Int32) : Int64 := x >>> (y.toInt64 &&& 63)
def zi2b (x : Int32) : Int32 := x.toInt8.toInt32
def zi2c (x : Int32) : Int32 := (x.toUInt32 % 65536).toInt32
def zbl {ρ : Type} (x : Int32) (K : Option ρ) : Option ρ := if x = 0 ∨ x = 1 then K else none
def znr {ρ : Type} (ty : FieldType) (x : Int32) (K : Option ρ) : Option ρ := if narrow ty (.int x) = .int x then K else none
def zlk (lv : List (Nat × Value)) (i : Nat) : Option Value := match lv with
  | [] => none
  | q :: t => cond (Nat.beq q.1 i) (some q.2) (zlk t i)
def zst (lv : List (Nat × Value)) (i : Nat) (v : Value) : List (Nat × Value) := (i, v) :: lv.filter (fun q => !(q.1 == i) && !(q.1 + 1 == i && q.2.category == 2))
theorem zlk_at {lv : List (Nat × Value)} {i : Nat} {v : Value} (h : zlk lv i = some v) : ∃ k : Nat, lv[k]? = some (i, v) := by
  induction lv with
  | nil => cases h
  | cons q t ih =>
    unfold zlk at h
    by_cases hq : q.1 = i
    · rw [show Nat.beq q.1 i = true by rw [hq]; exact Nat.beq_refl i, cond_true] at h
      exact ⟨0, by rw [List.getElem?_cons_zero]; cases q; simp at hq h ⊢; exact ⟨hq, h⟩⟩
    · rw [show Nat.beq q.1 i = false from by cases hb : Nat.beq q.1 i with
        | true => exact absurd (Nat.eq_of_beq_eq_true hb) hq
        | false => rfl, cond_false] at h
      obtain ⟨k, hk⟩ := ih h
      exact ⟨k + 1, by rw [List.getElem?_cons_succ]; exact hk⟩
theorem zlk_has {ls : Array Slot} {nL : Nat} {lv : List (Nat × Value)} {ad : Nat → Nat} {i : Nat} {v : Value} (hl : lv_has ls nL (lv.map (zep ad))) (h : zlk lv i = some v) : ls[i]? = some (.val (zev ad v)) := by
  obtain ⟨k, hk⟩ := zlk_at h
  exact lv_at hl k (by rw [List.getElem?_map, hk]; rfl)
theorem zst_map {lv : List (Nat × Value)} {ad : Nat → Nat} {i : Nat} {v : Value} : (i, zev ad v) :: (lv.map (zep ad)).filter (fun q => !(q.1 == i) && !(q.1 + 1 == i && q.2.category == 2)) = (zst lv i v).map (zep ad) := by
  unfold zst
  rw [List.map_cons, List.filter_map]
  congr 2
  apply List.filter_congr
  intro q _
  simp [zep, zev_cat, Function.comp]
theorem zargs_map (ad : Nat → Nat) : ∀ (i : Nat) (av : List Value), lv_args i (av.map (zev ad)) = (lv_args i av).map (zep ad)
  | _, [] => rfl
  | i, v :: vs => by
    rw [List.map_cons, lv_args, lv_args, List.map_cons, zargs_map ad _ vs, zev_cat]
    rfl
theorem zsl_len (ad : Nat → Nat) (av : List Value) : (lg_sl (av.map (zev ad))).length = (lg_sl av).length := by
  induction av with
  | nil => rfl
  | cons v vs ih =>
    simp only [lg_sl, List.map_cons, List.flatMap_cons, List.length_append] at ih ⊢
    rw [ih, zev_cat]
    by_cases h : v.category = 2 <;> simp [h]
section zRows
variable {ρ : Type} {emb : ρ → Option Value} {l : Launch} {G : zG} {L : List zD} {R : zR} {k : Nat} {yn : MethodName} {cc : ByteArray} {nL : Nat} {rt : Option FieldType} {pc : Nat} {lv : List (Nat × Value)} {st : List Value} {M : zM} {res : Option (ρ × zM)}
theorem zC.of {av : List Value} (hy : plainName yn.cls = true) (hn : (lg_sl av).length ≤ nL) (h : zV emb l G L R k yn cc nL rt 0 (lv_args 0 av) [] M res) : zC emb l G L R k yn cc nL rt av M res := by
  intro r M' hr ad
  refine Met.ofW (cc := cc) (maxL := nL) (ret := rt) hy rfl ?_
  intro p e s m args below meth c s₁ B hml hv
  obtain ⟨rfl, hP, hD, hK, hZ⟩ := hv
  have hts := atoms_spec (ws := zws yn cc nL rt) B.pre
  have hl := lv_entry (av.map (zev ad)) (n := nL) (by rw [zsl_len]; exact hn)
  rw [lg_entry_eq]
  rw [zargs_map] at hl
  exact h r M' hr p e s m _ below meth c s.heap [] _ ad ⟨B.exec, B.bytes, hml, B.returns, B.notSynchronized, findClass_of_methodNamed B.named, fun w hw => hts w (List.mem_cons_of_mem _ hw), hK, hZ⟩ hP hD va_S.rf hl

theorem v_iadd {x y : Int32} (hd : decode cc pc = .ok (.iadd, 1)) (h : zV emb l G L R k yn cc nL rt (pc + 1) lv (.int (x + y) :: st) M res) : zV emb l G L R k yn cc nL rt pc lv (.int y :: .int x :: st) M res := fun r M' hr p e s m args below meth c H locs ls ad cx hP hD hS hl => lv_iadd cx.1 cx.2.1 hd (h r M' hr p e s m args below meth c H locs ls ad cx hP hD hS hl)
theorem v_isub {x y : Int32} (hd : decode cc pc = .ok (.isub, 1)) (h : zV emb l G L R k yn cc nL rt (pc + 1) lv (.int (x - y) :: st) M res) : zV emb l G L R k yn cc nL rt pc lv (.int y :: .int x :: st) M res := fun r M' hr p e s m args below meth c H locs ls ad cx hP hD hS hl => lv_isub cx.1 cx.2.1 hd (h r M' hr p e s m args below meth c H locs ls ad cx hP hD hS hl)
theorem v_imul {x y : Int32} (hd : decode cc pc = .ok (.imul, 1)) (h : zV emb l G L R k yn cc nL rt (pc + 1) lv (.int (x * y) :: st) M res) : zV emb l G L R k yn cc nL rt pc lv (.int y :: .int x :: st) M res := fun r M' hr p e s m args below meth c H locs ls ad cx hP hD hS hl => lv_imul cx.1 cx.2.1 hd (h r M' hr p e s m args below meth c H locs ls ad cx hP hD hS hl)
theorem v_iand {x y : Int32} (hd : decode cc pc = .ok (.iand, 1)) (h : zV emb l G L R k yn cc nL rt (pc + 1) lv (.int (x &&& y) :: st) M res) : zV emb l G L R k yn cc nL rt pc lv (.int y :: .int x :: st) M res := fun r M' hr p e s m args below meth c H locs ls ad cx hP hD hS hl => lv_iand cx.1 cx.2.1 hd (h r M' hr p e s m args below meth c H locs ls ad cx hP hD hS hl)
theorem v_ior {x y : Int32} (hd : decode cc pc = .ok (.ior, 1)) (h : zV emb l G L R k yn cc nL rt (pc + 1) lv (.int (x ||| y) :: st) M res) : zV emb l G L R k yn cc nL rt pc lv (.int y :: .int x :: st) M res := fun r M' hr p e s m args below meth c H locs ls ad cx hP hD hS hl => lv_ior cx.1 cx.2.1 hd (h r M' hr p e s m args below meth c H locs ls ad cx hP hD hS hl)
theorem v_ixor {x y : Int32} (hd : decode cc pc = .ok (.ixor, 1)) (h : zV emb l G L R k yn cc nL rt (pc + 1) lv (.int (x ^^^ y) :: st) M res) : zV emb l G L R k yn cc nL rt pc lv (.int y :: .int x :: st) M res := fun r M' hr p e s m args below meth c H locs ls ad cx hP hD hS hl => lv_ixor cx.1 cx.2.1 hd (h r M' hr p e s m args below meth c H locs ls ad cx hP hD hS hl)
theorem v_ishl {x y : Int32} (hd : decode cc pc = .ok (.ishl, 1)) (h : zV emb l G L R k yn cc nL rt (pc + 1) lv (.int (zshl x y) :: st) M res) : zV emb l G L R k yn cc nL rt pc lv (.int y :: .int x :: st) M res := fun r M' hr p e s m args below meth c H locs ls ad cx hP hD hS hl => lv_ishl cx.1 cx.2.1 hd (h r M' hr p e s m args below meth c H locs ls ad cx hP hD hS hl)
theorem v_ishr {x y : Int32} (hd : decode cc pc = .ok (.ishr, 1)) (h : zV emb l G L R k yn cc nL rt (pc + 1) lv (.int (zshr x y) :: st) M res) : zV emb l G L R k yn cc nL rt pc lv (.int y :: .int x :: st) M res := fun r M' hr p e s m args below meth c H locs ls ad cx hP hD hS hl => lv_ishr cx.1 cx.2.1 hd (h r M' hr p e s m args below meth c H locs ls ad cx hP hD hS hl)
theorem v_iushr {x y : Int32} (hd : decode cc pc = .ok (.iushr, 1)) (h : zV emb l G L R k yn cc nL rt (pc + 1) lv (.int (zush x y) :: st) M res) : zV emb l G L R k yn cc nL rt pc lv (.int y :: .int x :: st) M res := fun r M' hr p e s m args below meth c H locs ls ad cx hP hD hS hl => lv_iushr (v := zush x y) cx.1 cx.2.1 hd rfl (h r M' hr p e s m args below meth c H locs ls ad cx hP hD hS hl)
theorem v_land {x y : Int64} (hd : decode cc pc = .ok (.land, 1)) (h : zV emb l G L R k yn cc nL rt (pc + 1) lv (.long (x &&& y) :: st) M res) : zV emb l G L R k yn cc nL rt pc lv (.long y :: .long x :: st) M res := fun r M' hr p e s m args below meth c H locs ls ad cx hP hD hS hl => lv_land cx.1 cx.2.1 hd (h r M' hr p e s m args below meth c H locs ls ad cx hP hD hS hl)
theorem v_lor {x y : Int64} (hd : decode cc pc = .ok (.lor, 1)) (h : zV emb l G L R k yn cc nL rt (pc + 1) lv (.long (x ||| y) :: st) M res) : zV emb l G L R k yn cc nL rt pc lv (.long y :: .long x :: st) M res := fun r M' hr p e s m args below meth c H locs ls ad cx hP hD hS hl => lv_lor cx.1 cx.2.1 hd (h r M' hr p e s m args below meth c H locs ls ad cx hP hD hS hl)
theorem v_lshl {x : Int64} {y : Int32} (hd : decode cc pc = .ok (.lshl, 1)) (h : zV emb l G L R k yn cc nL rt (pc + 1) lv (.long (zlshl x y) :: st) M res) : zV emb l G L R k yn cc nL rt pc lv (.int y :: .long x :: st) M res := fun r M' hr p e s m args below meth c H locs ls ad cx hP hD hS hl => lv_lshl (v := zlshl x y) cx.1 cx.2.1 hd rfl (h r M' hr p e s m args below meth c H locs ls ad cx hP hD hS hl)
theorem v_lshr {x : Int64} {y : Int32} (hd : decode cc pc = .ok (.lshr, 1)) (h : zV emb l G L R k yn cc nL rt (pc + 1) lv (.long (zlshr x y) :: st) M res) : zV emb l G L R k yn cc nL rt pc lv (.int y :: .long x :: st) M res := fun r M' hr p e s m args below meth c H locs ls ad cx hP hD hS hl => lv_lshr (v := zlshr x y) cx.1 cx.2.1 hd rfl (h r M' hr p e s m args below meth c H locs ls ad cx hP hD hS hl)
theorem v_lcmp {x y : Int64} (hd : decode cc pc = .ok (.lcmp, 1)) (h : zV emb l G L R k yn cc nL rt (pc + 1) lv (.int (lg_cmp x y) :: st) M res) : zV emb l G L R k yn cc nL rt pc lv (.long y :: .long x :: st) M res := fun r M' hr p e s m args below meth c H locs ls ad cx hP hD hS hl => W.lcmp cx.1 cx.2.1 hd (h r M' hr p e s m args below meth c H locs ls ad cx hP hD hS hl)
theorem v_i2l {x : Int32} (hd : decode cc pc = .ok (.i2l, 1)) (h : zV emb l G L R k yn cc nL rt (pc + 1) lv (.long x.toInt64 :: st) M res) : zV emb l G L R k yn cc nL rt pc lv (.int x :: st) M res := fun r M' hr p e s m args below meth c H locs ls ad cx hP hD hS hl => lv_i2l cx.1 cx.2.1 hd rfl (h r M' hr p e s m args below meth c H locs ls ad cx hP hD hS hl)
theorem v_l2i {x : Int64} (hd : decode cc pc = .ok (.l2i, 1)) (h : zV emb l G L R k yn cc nL rt (pc + 1) lv (.int x.toInt32 :: st) M res) : zV emb l G L R k yn cc nL rt pc lv (.long x :: st) M res := fun r M' hr p e s m args below meth c H locs ls ad cx hP hD hS hl => lv_l2i cx.1 cx.2.1 hd rfl (h r M' hr p e s m args below meth c H locs ls ad cx hP hD hS hl)
theorem v_i2b {x : Int32} (hd : decode cc pc = .ok (.i2b, 1)) (h : zV emb l G L R k yn cc nL rt (pc + 1) lv (.int (zi2b x) :: st) M res) : zV emb l G L R k yn cc nL rt pc lv (.int x :: st) M res := fun r M' hr p e s m args below meth c H locs ls ad cx hP hD hS hl => lv_i2b (v := zi2b x) cx.1 cx.2.1 hd rfl (h r M' hr p e s m args below meth c H locs ls ad cx hP hD hS hl)
theorem v_i2c {x : Int32} (hd : decode cc pc = .ok (.i2c, 1)) (h : zV emb l G L R k yn cc nL rt (pc + 1) lv (.int (zi2c x) :: st) M res) : zV emb l G L R k yn cc nL rt pc lv (.int x :: st) M res := fun r M' hr p e s m args below meth c H locs ls ad cx hP hD hS hl => lv_i2c (v := zi2c x) cx.1 cx.2.1 hd rfl (h r M' hr p e s m args below meth c H locs ls ad cx hP hD hS hl)
theorem v_iconst {n : Int} (v : Int32) (hd : decode cc pc = .ok (.iconst n, 1)) (hv : Int32.ofInt n = v) (h : zV emb l G L R k yn cc nL rt (pc + 1) lv (.int v :: st) M res) : zV emb l G L R k yn cc nL rt pc lv (st) M res := fun r M' hr p e s m args below meth c H locs ls ad cx hP hD hS hl => lv_iconst cx.1 cx.2.1 hd hv (h r M' hr p e s m args below meth c H locs ls ad cx hP hD hS hl)
theorem v_bipush {n : Int} (v : Int32) (hd : decode cc pc = .ok (.bipush n, 2)) (hv : (Int8.ofInt n).toInt32 = v) (h : zV emb l G L R k yn cc nL rt (pc + 2) lv (.int v :: st) M res) : zV emb l G L R k yn cc nL rt pc lv (st) M res := fun r M' hr p e s m args below meth c H locs ls ad cx hP hD hS hl => lv_bipush cx.1 cx.2.1 hd hv (h r M' hr p e s m args below meth c H locs ls ad cx hP hD hS hl)
theorem v_sipush {n : Int} (v : Int32) (hd : decode cc pc = .ok (.sipush n, 3)) (hv : (Int16.ofInt n).toInt32 = v) (h : zV emb l G L R k yn cc nL rt (pc + 3) lv (.int v :: st) M res) : zV emb l G L R k yn cc nL rt pc lv (st) M res := fun r M' hr p e s m args below meth c H locs ls ad cx hP hD hS hl => lv_sipush cx.1 cx.2.1 hd hv (h r M' hr p e s m args below meth c H locs ls ad cx hP hD hS hl)
theorem v_lconst {n : Fin 2} (v : Int64) (hd : decode cc pc = .ok (.lconst n, 1)) (hv : Int64.ofNat (n : Nat) = v) (h : zV emb l G L R k yn cc nL rt (pc + 1) lv (.long v :: st) M res) : zV emb l G L R k yn cc nL rt pc lv (st) M res := fun r M' hr p e s m args below meth c H locs ls ad cx hP hD hS hl => lv_lconst cx.1 cx.2.1 hd hv (h r M' hr p e s m args below meth c H locs ls ad cx hP hD hS hl)
theorem v_ldcw {i : Nat} (v : Int32) (hw : Cond.constant yn.cls i v ∈ zbig) (hd : decode cc pc = .ok (.ldc_w i, 3)) (h : zV emb l G L R k yn cc nL rt (pc + 3) lv (.int v :: st) M res) : zV emb l G L R k yn cc nL rt pc lv (st) M res := fun r M' hr p e s m args below meth c H locs ls ad cx hP hD hS hl => lv_ldcw cx.1 cx.2.1 cx.2.2.2.2.2.1 (cx.2.2.2.2.2.2.1 _ hw) hd (h r M' hr p e s m args below meth c H locs ls ad cx hP hD hS hl)
theorem v_ldc2 {i : Nat} (v : Int64) (hw : Cond.constantLong yn.cls i v ∈ zbig) (hd : decode cc pc = .ok (.ldc2_w i, 3)) (h : zV emb l G L R k yn cc nL rt (pc + 3) lv (.long v :: st) M res) : zV emb l G L R k yn cc nL rt pc lv (st) M res := fun r M' hr p e s m args below meth c H locs ls ad cx hP hD hS hl => lv_ldc2 cx.1 cx.2.1 cx.2.2.2.2.2.1 (cx.2.2.2.2.2.2.1 _ hw) hd (h r M' hr p e s m args below meth c H locs ls ad cx hP hD hS hl)
theorem v_dup {v : Value} (hd : decode cc pc = .ok (.dup, 1)) (hc : v.category = 1) (h : zV emb l G L R k yn cc nL rt (pc + 1) lv (v :: v :: st) M res) : zV emb l G L R k yn cc nL rt pc lv (v :: st) M res := fun r M' hr p e s m args below meth c H locs ls ad cx hP hD hS hl => lv_dup cx.1 cx.2.1 hd ((zev_cat ad v).trans hc) (h r M' hr p e s m args below meth c H locs ls ad cx hP hD hS hl)
theorem v_dup2 {v w : Value} (hd : decode cc pc = .ok (.dup2, 1)) (hc : v.category = 1) (hw : w.category = 1) (h : zV emb l G L R k yn cc nL rt (pc + 1) lv (v :: w :: v :: w :: st) M res) : zV emb l G L R k yn cc nL rt pc lv (v :: w :: st) M res := fun r M' hr p e s m args below meth c H locs ls ad cx hP hD hS hl => lv_dup2_11 cx.1 cx.2.1 hd ((zev_cat ad v).trans hc) ((zev_cat ad w).trans hw) (h r M' hr p e s m args below meth c H locs ls ad cx hP hD hS hl)
theorem v_pop {v : Value} (hd : decode cc pc = .ok (.pop, 1)) (hc : v.category = 1) (h : zV emb l G L R k yn cc nL rt (pc + 1) lv (st) M res) : zV emb l G L R k yn cc nL rt pc lv (v :: st) M res := fun r M' hr p e s m args below meth c H locs ls ad cx hP hD hS hl => lv_pop cx.1 cx.2.1 hd ((zev_cat ad v).trans hc) (h r M' hr p e s m args below meth c H locs ls ad cx hP hD hS hl)
theorem v_iload_n {q : Fin 4} {x : Int32} (hd : decode cc pc = .ok (.iload_n q, 1)) (hi : zlk lv q = some (.int x)) (h : zV emb l G L R k yn cc nL rt (pc + 1) lv (.int x :: st) M res) : zV emb l G L R k yn cc nL rt pc lv (st) M res := fun r M' hr p e s m args below meth c H locs ls ad cx hP hD hS hl => lv_iload_n cx.1 cx.2.1 hd rfl (zlk_has hl hi) (h r M' hr p e s m args below meth c H locs ls ad cx hP hD hS hl)
theorem v_iload {i : Nat} {x : Int32} (hd : decode cc pc = .ok (.iload i, 2)) (hi : zlk lv i = some (.int x)) (h : zV emb l G L R k yn cc nL rt (pc + 2) lv (.int x :: st) M res) : zV emb l G L R k yn cc nL rt pc lv (st) M res := fun r M' hr p e s m args below meth c H locs ls ad cx hP hD hS hl => lv_iload cx.1 cx.2.1 hd (zlk_has hl hi) (h r M' hr p e s m args below meth c H locs ls ad cx hP hD hS hl)
theorem v_lload_n {q : Fin 4} {x : Int64} (hd : decode cc pc = .ok (.lload_n q, 1)) (hi : zlk lv q = some (.long x)) (h : zV emb l G L R k yn cc nL rt (pc + 1) lv (.long x :: st) M res) : zV emb l G L R k yn cc nL rt pc lv (st) M res := fun r M' hr p e s m args below meth c H locs ls ad cx hP hD hS hl => lv_lload_n cx.1 cx.2.1 hd rfl (zlk_has hl hi) (h r M' hr p e s m args below meth c H locs ls ad cx hP hD hS hl)
theorem v_lload {i : Nat} {x : Int64} (hd : decode cc pc = .ok (.lload i, 2)) (hi : zlk lv i = some (.long x)) (h : zV emb l G L R k yn cc nL rt (pc + 2) lv (.long x :: st) M res) : zV emb l G L R k yn cc nL rt pc lv (st) M res := fun r M' hr p e s m args below meth c H locs ls ad cx hP hD hS hl => lv_lload cx.1 cx.2.1 hd (zlk_has hl hi) (h r M' hr p e s m args below meth c H locs ls ad cx hP hD hS hl)
theorem v_aload_n {q : Fin 4} {x : Nat} (hd : decode cc pc = .ok (.aload_n q, 1)) (hi : zlk lv q = some (.ref x)) (h : zV emb l G L R k yn cc nL rt (pc + 1) lv (.ref x :: st) M res) : zV emb l G L R k yn cc nL rt pc lv (st) M res := fun r M' hr p e s m args below meth c H locs ls ad cx hP hD hS hl => lv_aload_n cx.1 cx.2.1 hd rfl (zlk_has hl hi) (h r M' hr p e s m args below meth c H locs ls ad cx hP hD hS hl)
theorem v_aload {i : Nat} {x : Nat} (hd : decode cc pc = .ok (.aload i, 2)) (hi : zlk lv i = some (.ref x)) (h : zV emb l G L R k yn cc nL rt (pc + 2) lv (.ref x :: st) M res) : zV emb l G L R k yn cc nL rt pc lv (st) M res := fun r M' hr p e s m args below meth c H locs ls ad cx hP hD hS hl => lv_aload cx.1 cx.2.1 hd (zlk_has hl hi) (h r M' hr p e s m args below meth c H locs ls ad cx hP hD hS hl)
theorem v_istore_n {q : Fin 4} {x : Int32} (hd : decode cc pc = .ok (.istore_n q, 1)) (hn : (q : Nat) < nL) (h : zV emb l G L R k yn cc nL rt (pc + 1) (zst lv q (.int x)) st M res) : zV emb l G L R k yn cc nL rt pc lv (.int x :: st) M res := fun r M' hr p e s m args below meth c H locs ls ad cx hP hD hS hl => lv_istore_n cx.1 cx.2.1 hd rfl hl hn (zst_map (v := .int x)) (fun ls' hl' => h r M' hr p e s m args below meth c H locs ls' ad cx hP hD hS hl')
theorem v_istore {i : Nat} {x : Int32} (hd : decode cc pc = .ok (.istore i, 2)) (hn : i < nL) (h : zV emb l G L R k yn cc nL rt (pc + 2) (zst lv i (.int x)) st M res) : zV emb l G L R k yn cc nL rt pc lv (.int x :: st) M res := fun r M' hr p e s m args below meth c H locs ls ad cx hP hD hS hl => lv_istore cx.1 cx.2.1 hd hl hn (zst_map (v := .int x)) (fun ls' hl' => h r M' hr p e s m args below meth c H locs ls' ad cx hP hD hS hl')
theorem v_astore_n {q : Fin 4} {x : Nat} (hd : decode cc pc = .ok (.astore_n q, 1)) (hn : (q : Nat) < nL) (h : zV emb l G L R k yn cc nL rt (pc + 1) (zst lv q (.ref x)) st M res) : zV emb l G L R k yn cc nL rt pc lv (.ref x :: st) M res := fun r M' hr p e s m args below meth c H locs ls ad cx hP hD hS hl => lv_astore_n cx.1 cx.2.1 hd rfl hl hn (zst_map (v := .ref x)) (fun ls' hl' => h r M' hr p e s m args below meth c H locs ls' ad cx hP hD hS hl')
theorem v_astore {i : Nat} {x : Nat} (hd : decode cc pc = .ok (.astore i, 2)) (hn : i < nL) (h : zV emb l G L R k yn cc nL rt (pc + 2) (zst lv i (.ref x)) st M res) : zV emb l G L R k yn cc nL rt pc lv (.ref x :: st) M res := fun r M' hr p e s m args below meth c H locs ls ad cx hP hD hS hl => lv_astore cx.1 cx.2.1 hd hl hn (zst_map (v := .ref x)) (fun ls' hl' => h r M' hr p e s m args below meth c H locs ls' ad cx hP hD hS hl')
def lt {α : Type} (x : Int32) (K : Int32 → Option α) : Option α := K x
theorem v_istore_nL {q : Fin 4} {x : Int32} {K : Int32 → Option (ρ × zM)} (hd : decode cc pc = .ok (.istore_n q, 1)) (hn : (q : Nat) < nL) (h : ∀ z, zV emb l G L R k yn cc nL rt (pc + 1) (zst lv q (.int z)) st M (K z)) : zV emb l G L R k yn cc nL rt pc lv (.int x :: st) M (lt x K) := v_istore_n hd hn (h x)
theorem v_istoreL {i : Nat} {x : Int32} {K : Int32 → Option (ρ × zM)} (hd : decode cc pc = .ok (.istore i, 2)) (hn : i < nL) (h : ∀ z, zV emb l G L R k yn cc nL rt (pc + 2) (zst lv i (.int z)) st M (K z)) : zV emb l G L R k yn cc nL rt pc lv (.int x :: st) M (lt x K) := v_istore hd hn (h x)
theorem v_ifP {P : Prop} [inst : Decidable P] (h : P → zV emb l G L R k yn cc nL rt pc lv st M res) : zV emb l G L R k yn cc nL rt pc lv st M (if P then res else none) := by
  intro r M' hr
  by_cases hp : P
  · rw [if_pos hp] at hr
    exact h hp r M' hr
  · rw [if_neg hp] at hr
    cases hr
theorem v_iinc {i : Nat} {n : Int} {x : Int32} (w : Int32) (hd : decode cc pc = .ok (.iinc i n, 3)) (hi : zlk lv i = some (.int x)) (hw : Int32.ofInt n = w) (hn : i < nL) (h : zV emb l G L R k yn cc nL rt (pc + 3) (zst lv i (.int (x + w))) st M res) : zV emb l G L R k yn cc nL rt pc lv st M res := by
  intro r M' hr p e s m args below meth c H locs ls ad cx hP hD hS hl
  obtain ⟨q, hq⟩ := zlk_at hi
  exact lv_iinc (k := q) (x := x) (v := x + w) cx.1 cx.2.1 hd hl (by rw [List.getElem?_map, hq]; rfl) (by rw [hw]) hn (zst_map (v := .int (x + w))) (fun ls' hl' => h r M' hr p e s m args below meth c H locs ls' ad cx hP hD hS hl')
theorem v_if_eq {x : Int32} {off : Int} (tgt : Nat) {res2 : Option (ρ × zM)} (hd : decode cc pc = .ok (.ifCond .eq off, 3)) (ht : (pc : Int) + off = (tgt : Int)) (h1 : zV emb l G L R k yn cc nL rt tgt lv st M res) (h2 : zV emb l G L R k yn cc nL rt (pc + 3) lv st M res2) : zV emb l G L R k yn cc nL rt pc lv (.int x :: st) M (if x = 0 then res else res2) := by
  intro r M' hr p e s m args below meth c H locs ls ad cx hP hD hS hl
  by_cases hc : x = 0
  · rw [if_pos hc] at hr
    exact lv_if_eq (tgt := tgt) cx.1 cx.2.1 hd ht (fun _ => h1 r M' hr p e s m args below meth c H locs ls ad cx hP hD hS hl) (fun hn => absurd hc (by first | exact hn | exact fun z => z hn))
  · rw [if_neg hc] at hr
    exact lv_if_eq (tgt := tgt) cx.1 cx.2.1 hd ht (fun hn => absurd hn hc) (fun _ => h2 r M' hr p e s m args below meth c H locs ls ad cx hP hD hS hl)
theorem v_icmp_eq {x y : Int32} {off : Int} (tgt : Nat) {res2 : Option (ρ × zM)} (hd : decode cc pc = .ok (.if_icmp .eq off, 3)) (ht : (pc : Int) + off = (tgt : Int)) (h1 : zV emb l G L R k yn cc nL rt tgt lv st M res) (h2 : zV emb l G L R k yn cc nL rt (pc + 3) lv st M res2) : zV emb l G L R k yn cc nL rt pc lv (.int y :: .int x :: st) M (if x = y then res else res2) := by
  intro r M' hr p e s m args below meth c H locs ls ad cx hP hD hS hl
  by_cases hc : x = y
  · rw [if_pos hc] at hr
    exact lv_icmp_eq (tgt := tgt) cx.1 cx.2.1 hd ht (fun _ => h1 r M' hr p e s m args below meth c H locs ls ad cx hP hD hS hl) (fun hn => absurd hc (by first | exact hn | exact fun z => z hn))
  · rw [if_neg hc] at hr
    exact lv_icmp_eq (tgt := tgt) cx.1 cx.2.1 hd ht (fun hn => absurd hn hc) (fun _ => h2 r M' hr p e s m args below meth c H locs ls ad cx hP hD hS hl)
theorem v_if_ne {x : Int32} {off : Int} (tgt : Nat) {res2 : Option (ρ × zM)} (hd : decode cc pc = .ok (.ifCond .ne off, 3)) (ht : (pc : Int) + off = (tgt : Int)) (h1 : zV emb l G L R k yn cc nL rt tgt lv st M res) (h2 : zV emb l G L R k yn cc nL rt (pc + 3) lv st M res2) : zV emb l G L R k yn cc nL rt pc lv (.int x :: st) M (if ¬ x = 0 then res else res2) := by
  intro r M' hr p e s m args below meth c H locs ls ad cx hP hD hS hl
  by_cases hc : ¬ x = 0
  · rw [if_pos hc] at hr
    exact lv_if_ne (tgt := tgt) cx.1 cx.2.1 hd ht (fun _ => h1 r M' hr p e s m args below meth c H locs ls ad cx hP hD hS hl) (fun hn => absurd hc (by first | exact hn | exact fun z => z hn))
  · rw [if_neg hc] at hr
    exact lv_if_ne (tgt := tgt) cx.1 cx.2.1 hd ht (fun hn => absurd hn hc) (fun _ => h2 r M' hr p e s m args below meth c H locs ls ad cx hP hD hS hl)
theorem v_icmp_ne {x y : Int32} {off : Int} (tgt : Nat) {res2 : Option (ρ × zM)} (hd : decode cc pc = .ok (.if_icmp .ne off, 3)) (ht : (pc : Int) + off = (tgt : Int)) (h1 : zV emb l G L R k yn cc nL rt tgt lv st M res) (h2 : zV emb l G L R k yn cc nL rt (pc + 3) lv st M res2) : zV emb l G L R k yn cc nL rt pc lv (.int y :: .int x :: st) M (if ¬ x = y then res else res2) := by
  intro r M' hr p e s m args below meth c H locs ls ad cx hP hD hS hl
  by_cases hc : ¬ x = y
  · rw [if_pos hc] at hr
    exact lv_icmp_ne (tgt := tgt) cx.1 cx.2.1 hd ht (fun _ => h1 r M' hr p e s m args below meth c H locs ls ad cx hP hD hS hl) (fun hn => absurd hc (by first | exact hn | exact fun z => z hn))
  · rw [if_neg hc] at hr
    exact lv_icmp_ne (tgt := tgt) cx.1 cx.2.1 hd ht (fun hn => absurd hn hc) (fun _ => h2 r M' hr p e s m args below meth c H locs ls ad cx hP hD hS hl)
theorem v_if_lt {x : Int32} {off : Int} (tgt : Nat) {res2 : Option (ρ × zM)} (hd : decode cc pc = .ok (.ifCond .lt off, 3)) (ht : (pc : Int) + off = (tgt : Int)) (h1 : zV emb l G L R k yn cc nL rt tgt lv st M res) (h2 : zV emb l G L R k yn cc nL rt (pc + 3) lv st M res2) : zV emb l G L R k yn cc nL rt pc lv (.int x :: st) M (if x < 0 then res else res2) := by
  intro r M' hr p e s m args below meth c H locs ls ad cx hP hD hS hl
  by_cases hc : x < 0
  · rw [if_pos hc] at hr
    exact lv_if_lt (tgt := tgt) cx.1 cx.2.1 hd ht (fun _ => h1 r M' hr p e s m args below meth c H locs ls ad cx hP hD hS hl) (fun hn => absurd hc (by first | exact hn | exact fun z => z hn))
  · rw [if_neg hc] at hr
    exact lv_if_lt (tgt := tgt) cx.1 cx.2.1 hd ht (fun hn => absurd hn hc) (fun _ => h2 r M' hr p e s m args below meth c H locs ls ad cx hP hD hS hl)
theorem v_icmp_lt {x y : Int32} {off : Int} (tgt : Nat) {res2 : Option (ρ × zM)} (hd : decode cc pc = .ok (.if_icmp .lt off, 3)) (ht : (pc : Int) + off = (tgt : Int)) (h1 : zV emb l G L R k yn cc nL rt tgt lv st M res) (h2 : zV emb l G L R k yn cc nL rt (pc + 3) lv st M res2) : zV emb l G L R k yn cc nL rt pc lv (.int y :: .int x :: st) M (if x < y then res else res2) := by
  intro r M' hr p e s m args below meth c H locs ls ad cx hP hD hS hl
  by_cases hc : x < y
  · rw [if_pos hc] at hr
    exact lv_icmp_lt (tgt := tgt) cx.1 cx.2.1 hd ht (fun _ => h1 r M' hr p e s m args below meth c H locs ls ad cx hP hD hS hl) (fun hn => absurd hc (by first | exact hn | exact fun z => z hn))
  · rw [if_neg hc] at hr
    exact lv_icmp_lt (tgt := tgt) cx.1 cx.2.1 hd ht (fun hn => absurd hn hc) (fun _ => h2 r M' hr p e s m args below meth c H locs ls ad cx hP hD hS hl)
theorem v_if_ge {x : Int32} {off : Int} (tgt : Nat) {res2 : Option (ρ × zM)} (hd : decode cc pc = .ok (.ifCond .ge off, 3)) (ht : (pc : Int) + off = (tgt : Int)) (h1 : zV emb l G L R k yn cc nL rt tgt lv st M res) (h2 : zV emb l G L R k yn cc nL rt (pc + 3) lv st M res2) : zV emb l G L R k yn cc nL rt pc lv (.int x :: st) M (if 0 ≤ x then res else res2) := by
  intro r M' hr p e s m args below meth c H locs ls ad cx hP hD hS hl
  by_cases hc : 0 ≤ x
  · rw [if_pos hc] at hr
    exact lv_if_ge (tgt := tgt) cx.1 cx.2.1 hd ht (fun _ => h1 r M' hr p e s m args below meth c H locs ls ad cx hP hD hS hl) (fun hn => absurd hc (by first | exact hn | exact fun z => z hn))
  · rw [if_neg hc] at hr
    exact lv_if_ge (tgt := tgt) cx.1 cx.2.1 hd ht (fun hn => absurd hn hc) (fun _ => h2 r M' hr p e s m args below meth c H locs ls ad cx hP hD hS hl)
theorem v_icmp_ge {x y : Int32} {off : Int} (tgt : Nat) {res2 : Option (ρ × zM)} (hd : decode cc pc = .ok (.if_icmp .ge off, 3)) (ht : (pc : Int) + off = (tgt : Int)) (h1 : zV emb l G L R k yn cc nL rt tgt lv st M res) (h2 : zV emb l G L R k yn cc nL rt (pc + 3) lv st M res2) : zV emb l G L R k yn cc nL rt pc lv (.int y :: .int x :: st) M (if y ≤ x then res else res2) := by
  intro r M' hr p e s m args below meth c H locs ls ad cx hP hD hS hl
  by_cases hc : y ≤ x
  · rw [if_pos hc] at hr
    exact lv_icmp_ge (tgt := tgt) cx.1 cx.2.1 hd ht (fun _ => h1 r M' hr p e s m args below meth c H locs ls ad cx hP hD hS hl) (fun hn => absurd hc (by first | exact hn | exact fun z => z hn))
  · rw [if_neg hc] at hr
    exact lv_icmp_ge (tgt := tgt) cx.1 cx.2.1 hd ht (fun hn => absurd hn hc) (fun _ => h2 r M' hr p e s m args below meth c H locs ls ad cx hP hD hS hl)
theorem v_if_gt {x : Int32} {off : Int} (tgt : Nat) {res2 : Option (ρ × zM)} (hd : decode cc pc = .ok (.ifCond .gt off, 3)) (ht : (pc : Int) + off = (tgt : Int)) (h1 : zV emb l G L R k yn cc nL rt tgt lv st M res) (h2 : zV emb l G L R k yn cc nL rt (pc + 3) lv st M res2) : zV emb l G L R k yn cc nL rt pc lv (.int x :: st) M (if 0 < x then res else res2) := by
  intro r M' hr p e s m args below meth c H locs ls ad cx hP hD hS hl
  by_cases hc : 0 < x
  · rw [if_pos hc] at hr
    exact lv_if_gt (tgt := tgt) cx.1 cx.2.1 hd ht (fun _ => h1 r M' hr p e s m args below meth c H locs ls ad cx hP hD hS hl) (fun hn => absurd hc (by first | exact hn | exact fun z => z hn))
  · rw [if_neg hc] at hr
    exact lv_if_gt (tgt := tgt) cx.1 cx.2.1 hd ht (fun hn => absurd hn hc) (fun _ => h2 r M' hr p e s m args below meth c H locs ls ad cx hP hD hS hl)
theorem v_icmp_gt {x y : Int32} {off : Int} (tgt : Nat) {res2 : Option (ρ × zM)} (hd : decode cc pc = .ok (.if_icmp .gt off, 3)) (ht : (pc : Int) + off = (tgt : Int)) (h1 : zV emb l G L R k yn cc nL rt tgt lv st M res) (h2 : zV emb l G L R k yn cc nL rt (pc + 3) lv st M res2) : zV emb l G L R k yn cc nL rt pc lv (.int y :: .int x :: st) M (if y < x then res else res2) := by
  intro r M' hr p e s m args below meth c H locs ls ad cx hP hD hS hl
  by_cases hc : y < x
  · rw [if_pos hc] at hr
    exact lv_icmp_gt (tgt := tgt) cx.1 cx.2.1 hd ht (fun _ => h1 r M' hr p e s m args below meth c H locs ls ad cx hP hD hS hl) (fun hn => absurd hc (by first | exact hn | exact fun z => z hn))
  · rw [if_neg hc] at hr
    exact lv_icmp_gt (tgt := tgt) cx.1 cx.2.1 hd ht (fun hn => absurd hn hc) (fun _ => h2 r M' hr p e s m args below meth c H locs ls ad cx hP hD hS hl)
theorem v_if_le {x : Int32} {off : Int} (tgt : Nat) {res2 : Option (ρ × zM)} (hd : decode cc pc = .ok (.ifCond .le off, 3)) (ht : (pc : Int) + off = (tgt : Int)) (h1 : zV emb l G L R k yn cc nL rt tgt lv st M res) (h2 : zV emb l G L R k yn cc nL rt (pc + 3) lv st M res2) : zV emb l G L R k yn cc nL rt pc lv (.int x :: st) M (if x ≤ 0 then res else res2) := by
  intro r M' hr p e s m args below meth c H locs ls ad cx hP hD hS hl
  by_cases hc : x ≤ 0
  · rw [if_pos hc] at hr
    exact lv_if_le (tgt := tgt) cx.1 cx.2.1 hd ht (fun _ => h1 r M' hr p e s m args below meth c H locs ls ad cx hP hD hS hl) (fun hn => absurd hc (by first | exact hn | exact fun z => z hn))
  · rw [if_neg hc] at hr
    exact lv_if_le (tgt := tgt) cx.1 cx.2.1 hd ht (fun hn => absurd hn hc) (fun _ => h2 r M' hr p e s m args below meth c H locs ls ad cx hP hD hS hl)
theorem v_icmp_le {x y : Int32} {off : Int} (tgt : Nat) {res2 : Option (ρ × zM)} (hd : decode cc pc = .ok (.if_icmp .le off, 3)) (ht : (pc : Int) + off = (tgt : Int)) (h1 : zV emb l G L R k yn cc nL rt tgt lv st M res) (h2 : zV emb l G L R k yn cc nL rt (pc + 3) lv st M res2) : zV emb l G L R k yn cc nL rt pc lv (.int y :: .int x :: st) M (if x ≤ y then res else res2) := by
  intro r M' hr p e s m args below meth c H locs ls ad cx hP hD hS hl
  by_cases hc : x ≤ y
  · rw [if_pos hc] at hr
    exact lv_icmp_le (tgt := tgt) cx.1 cx.2.1 hd ht (fun _ => h1 r M' hr p e s m args below meth c H locs ls ad cx hP hD hS hl) (fun hn => absurd hc (by first | exact hn | exact fun z => z hn))
  · rw [if_neg hc] at hr
    exact lv_icmp_le (tgt := tgt) cx.1 cx.2.1 hd ht (fun hn => absurd hn hc) (fun _ => h2 r M' hr p e s m args below meth c H locs ls ad cx hP hD hS hl)
theorem v_goto {off : Int} (tgt : Nat) (hd : decode cc pc = .ok (.goto off, 3)) (ht : (pc : Int) + off = (tgt : Int)) (h : zV emb l G L R k yn cc nL rt tgt lv st M res) : zV emb l G L R k yn cc nL rt pc lv st M res := fun r M' hr p e s m args below meth c H locs ls ad cx hP hD hS hl => lv_goto (tgt := tgt) cx.1 cx.2.1 hd ht (h r M' hr p e s m args below meth c H locs ls ad cx hP hD hS hl)
theorem v_sub {lv2 : List (Nat × Value)} (h : zV emb l G L R k yn cc nL rt pc lv2 st M res) (hs : lv2.map (fun q => zlk lv q.1) = lv2.map (fun q => some q.2)) : zV emb l G L R k yn cc nL rt pc lv st M res := by
  intro r M' hr p e s m args below meth c H locs ls ad cx hP hD hS hl
  refine h r M' hr p e s m args below meth c H locs ls ad cx hP hD hS ⟨hl.1, hl.2.1, fun q hq => ?_⟩
  obtain ⟨q0, hq0, rfl⟩ := List.mem_map.mp hq
  have h1 : zlk lv q0.1 = some q0.2 := List.map_inj_left.mp hs q0 hq0
  exact zlk_has hl h1
theorem v_none {lv : List (Nat × Value)} : zV emb l G L R k yn cc nL rt pc lv st M none := fun r M' hr => by cases hr
/-! returns -/
theorem zret_q {M : zM} {p : Program} {s : State} {m : MethodId} {args : Array Value} {meth : Method} {c : Code} {H : Heap} {locs : List Loc} {ad : Nat → Nat} {v : Option Value} (hP : va_P G.1 vwCl (zW G ad L M R) H) (hS : va_S (zA ad L) s.heap H locs) : ∀ t : State, t.heap = H → s.WarmedH t.vm → zQ G ad L R v M args s (.returned (v.map (zev ad))) t :=
  fun t ht _ => ⟨⟨rfl, by rw [ht]; exact hP⟩, hS.F ht⟩
theorem v_iret {x : Int32} (hd : decode cc pc = .ok (.ireturn, 1)) : zV eI l G L R k yn cc nL (some .int) pc lv [.int x] M (some (x, M)) := by
  intro r M' hr p e s m args below meth c H locs ls ad cx hP hD hS hl
  cases hr
  exact W.iret cx.1 cx.2.1 cx.2.2.2.1 (zret_q (p := p) (m := m) (meth := meth) (c := c) (v := eI x) hP hS) hS.2.2 hd cx.2.2.2.2.1
theorem v_nret {x : Int32} {ty : FieldType} (hd : decode cc pc = .ok (.ireturn, 1)) : zV eI l G L R k yn cc nL (some ty) pc lv [.int x] M (znr ty x (some (x, M))) := by
  intro r M' hr p e s m args below meth c H locs ls ad cx hP hD hS hl
  unfold znr at hr
  by_cases hn : narrow ty (.int x) = .int x
  · rw [if_pos hn] at hr
    cases hr
    exact W.zret cx.1 cx.2.1 cx.2.2.2.1 hn (zret_q (p := p) (m := m) (meth := meth) (c := c) (v := eI x) hP hS) hS.2.2 hd cx.2.2.2.2.1
  · rw [if_neg hn] at hr
    cases hr
theorem v_zret {x : Int32} (hd : decode cc pc = .ok (.ireturn, 1)) : zV eI l G L R k yn cc nL (some .boolean) pc lv [.int x] M (zbl x (some (x, M))) := by
  intro r M' hr
  unfold zbl at hr
  by_cases hn : x = 0 ∨ x = 1
  · rw [if_pos hn] at hr
    refine v_nret (ty := .boolean) hd r M' ?_
    unfold znr
    rw [if_pos (by rcases hn with rfl | rfl <;> decide)]
    exact hr
  · rw [if_neg hn] at hr
    cases hr
theorem v_vret (hd : decode cc pc = .ok (.return_, 1)) : zV eV l G L R k yn cc nL none pc lv [] M (some ((), M)) := by
  intro r M' hr p e s m args below meth c H locs ls ad cx hP hD hS hl
  cases hr
  exact W.vret cx.1 cx.2.1 cx.2.2.2.1 (zret_q (p := p) (m := m) (meth := meth) (c := c) (v := eV ()) hP hS) hS.2.2 hd cx.2.2.2.2.1
theorem v_aret {j : Nat} {n : String} (hd : decode cc pc = .ok (.areturn, 1)) : zV eR l G L R k yn cc nL (some (.object n)) pc lv [.ref j] M (some (j, M)) := by
  intro r M' hr p e s m args below meth c H locs ls ad cx hP hD hS hl
  cases hr
  exact W.aret cx.1 cx.2.1 cx.2.2.2.1 (Or.inl ⟨n, rfl⟩) (Or.inr ⟨ad j, rfl⟩) (zret_q (p := p) (m := m) (meth := meth) (c := c) (v := eR j) hP hS) hS.2.2 hd cx.2.2.2.2.1
/-! division -/
theorem v_idiv {x y : Int32} {K : Int32 → Option (ρ × zM)} (hd : decode cc pc = .ok (.idiv, 1)) (h : ∀ z, zV emb l G L R k yn cc nL rt (pc + 1) lv (.int z :: st) M (K z)) : zV emb l G L R k yn cc nL rt pc lv (.int y :: .int x :: st) M (zdiv x y K) := by
  intro r M' hr p e s m args below meth c H locs ls ad cx hP hD hS hl
  unfold zdiv at hr
  by_cases hy : y = 0
  · rw [if_pos hy] at hr
    cases hr
  · rw [if_neg hy] at hr
    exact lv_idiv cx.1 cx.2.1 hd hy (h _ r M' hr p e s m args below meth c H locs ls ad cx hP hD hS hl)
theorem v_irem {x y : Int32} {K : Int32 → Option (ρ × zM)} (hd : decode cc pc = .ok (.irem, 1)) (h : ∀ z, zV emb l G L R k yn cc nL rt (pc + 1) lv (.int z :: st) M (K z)) : zV emb l G L R k yn cc nL rt pc lv (.int y :: .int x :: st) M (zmod x y K) := by
  intro r M' hr p e s m args below meth c H locs ls ad cx hP hD hS hl
  unfold zmod at hr
  by_cases hy : y = 0
  · rw [if_pos hy] at hr
    cases hr
  · rw [if_neg hy] at hr
    exact lv_irem cx.1 cx.2.1 hd hy (h _ r M' hr p e s m args below meth c H locs ls ad cx hP hD hS hl)
/-! fields -/
def zK (t : Nat) (C : String) (T : u_T) (N : Nat) (ty : Nat → FieldType) : Prop := vwCl[t]? = some (C, T, N) ∧ (∀ w ∈ u_ws C T N, w ∈ zbig) ∧ (∀ k, k < N → parseFieldDescriptor (T k).2.2.1 = some (ty k)) ∧ (∀ a, a < N → ∀ b, b < N → a ≠ b → (T a).2.1 ≠ (T b).2.1) ∧ t < 100 ∧ (zB t).length = N
theorem zE_obj {ad : Nat → Nat} {t n : Nat} {mi : Nat → Int32} {mr : Nat → Option Nat} (h : t < 100) : zE G ad (t, n) mi mr = .inr (t, zF ad (zB t) mi mr) := by
  unfold zE
  rw [if_neg (by show ¬ t = 100; omega), if_neg (by show ¬ t = 101; omega), if_neg (by show ¬ t = 102; omega), if_neg (by show ¬ t = 103; omega), if_neg (by show ¬ t = 104; omega)]
theorem zW_obj {ad : Nat → Nat} {j t n : Nat} (h : t < 100) (hL : L[j]? = some (t, n)) : (zW G ad L M R)[j]? = some (ad j, .inr (t, zF ad (zB t) (M j) (R j))) := by
  rw [zW_get hL, zE_obj h]
theorem v_getI {t n0 idx j q N : Nat} {C : String} {T : u_T} {ty : Nat → FieldType} (hk : zK t C T N ty) (hL : L[j]? = some (t, n0)) (hq : (zB t)[q]? = some true) (hw : Cond.fieldLink yn.cls idx (T q).1 (T q).2.1 (T q).2.2.1 ∈ zbig) (hd : decode cc pc = .ok (.getfield idx, 3)) (h : zV emb l G L R k yn cc nL rt (pc + 3) lv (.int (M j q) :: st) M res) : zV emb l G L R k yn cc nL rt pc lv (.ref j :: st) M res := by
  intro r M' hr p e s m args below meth c H locs ls ad cx hP hD hS hl
  have hqN : q < N := by rw [← hk.2.2.2.2.2]; exact (List.getElem?_eq_some_iff.mp hq).1
  exact va_get cx.1 cx.2.1 cx.2.2.2.2.2.2.1 hk.2.1 cx.2.2.2.2.2.1 cx.2.2.2.2.2.2.2.1 hP j (zW_obj hk.2.2.2.2.1 hL) hk.1 q hqN (cx.2.2.2.2.2.2.1 _ hw) (fun _ hx => hx) (zF_get hq) hd (h r M' hr p e s m args below meth c H locs ls ad cx hP hD hS hl)
theorem v_getR {t n0 idx j q N b : Nat} {C : String} {T : u_T} {ty : Nat → FieldType} (hk : zK t C T N ty) (hL : L[j]? = some (t, n0)) (hq : (zB t)[q]? = some false) (hR : R j q = some b) (hw : Cond.fieldLink yn.cls idx (T q).1 (T q).2.1 (T q).2.2.1 ∈ zbig) (hd : decode cc pc = .ok (.getfield idx, 3)) (h : zV emb l G L R k yn cc nL rt (pc + 3) lv (.ref b :: st) M res) : zV emb l G L R k yn cc nL rt pc lv (.ref j :: st) M res := by
  intro r M' hr p e s m args below meth c H locs ls ad cx hP hD hS hl
  have hqN : q < N := by rw [← hk.2.2.2.2.2]; exact (List.getElem?_eq_some_iff.mp hq).1
  exact va_get cx.1 cx.2.1 cx.2.2.2.2.2.2.1 hk.2.1 cx.2.2.2.2.2.1 cx.2.2.2.2.2.2.2.1 hP j (zW_obj hk.2.2.2.2.1 hL) hk.1 q hqN (cx.2.2.2.2.2.2.1 _ hw) (fun _ hx => hx) (zF_getR hq hR) hd (h r M' hr p e s m args below meth c H locs ls ad cx hP hD hS hl)
theorem v_putI {t n0 idx j q N : Nat} {C : String} {T : u_T} {ty : Nat → FieldType} {x : Int32} {K : zM → Option (ρ × zM)} (hk : zK t C T N ty) (hL : L[j]? = some (t, n0)) (hq : (zB t)[q]? = some true) (hw : Cond.fieldLink yn.cls idx (T q).1 (T q).2.1 (T q).2.2.1 ∈ zbig) (hfin : (T q).2.2.2 = false) (hn : narrow (ty q) (.int x) = .int x) (hf : fits (ty q) (.int x) = true) (hd : decode cc pc = .ok (.putfield idx, 3)) (h : ∀ M1, zV emb l G L R k yn cc nL rt (pc + 3) lv st M1 (K M1)) : zV emb l G L R k yn cc nL rt pc lv (.int x :: .ref j :: st) M (wf M j q x K) := by
  intro r M' hr p e s m args below meth c H locs ls ad cx hP hD hS hl
  have hqN : q < N := by rw [← hk.2.2.2.2.2]; exact (List.getElem?_eq_some_iff.mp hq).1
  refine va_put cx.1 cx.2.1 cx.2.2.2.2.2.2.1 hk.2.1 ty hk.2.2.1 hk.2.2.2.1 cx.2.2.2.2.2.1 cx.2.2.2.2.2.2.2.1 hP hD hS j (zW_obj hk.2.2.2.2.1 hL) hk.1 q hqN (cx.2.2.2.2.2.2.1 _ hw) (fun _ hx => hx) hfin (hk.2.2.1 q hqN) hn hf (by rw [zF_len, hk.2.2.2.2.2]; exact hqN) hd (fun H1 locs1 hP1 hD1 hS1 => ?_)
  have he := zW_set (G := G) (ad := ad) (M := M) (R := R) (k := q) (x := x) (e := .inr (t, (zF ad (zB t) (M j) (R j)).set q (.int x))) hL (by rw [zE_obj hk.2.2.2.2.1, zF_set hq])
  exact h _ r M' hr p e s m args below meth c H1 locs1 ls ad cx (by rw [← he]; exact hP1) (by rw [← he]; exact hD1) hS1 hl
/-! arrays -/
theorem zW_i {ad : Nat → Nat} {j n : Nat} (hL : L[j]? = some (100, n)) : (zW G ad L M R)[j]? = some (ad j, .inl (G.2 0, n, .inl (M j))) := by rw [zW_get hL]; rfl
theorem zW_b {ad : Nat → Nat} {j n : Nat} (hL : L[j]? = some (101, n)) : (zW G ad L M R)[j]? = some (ad j, .inl (G.2 1, n, .inl (M j))) := by rw [zW_get hL]; rfl
theorem zW_z {ad : Nat → Nat} {j n : Nat} (hL : L[j]? = some (102, n)) : (zW G ad L M R)[j]? = some (ad j, .inl (G.2 2, n, .inl (M j))) := by rw [zW_get hL]; rfl
theorem zW_n {ad : Nat → Nat} {j n : Nat} (hL : L[j]? = some (103, n)) : (zW G ad L M R)[j]? = some (ad j, .inl (G.2 3, n, .inr (.inr (.inr (.inr (fun i => (R j i).map ad)))))) := by rw [zW_get hL]; rfl
theorem zW_p {ad : Nat → Nat} {j n : Nat} (hL : L[j]? = some (104, n)) : (zW G ad L M R)[j]? = some (ad j, .inl (G.2 4, n, .inr (.inr (.inr (.inr (fun i => (R j i).map ad)))))) := by rw [zW_get hL]; rfl
def rr {α : Type} (R : zR) (j n : Nat) (i : Int32) (K : Nat → Option α) : Option α := if zin i n = true then (match R j i.toNatClampNeg with
  | none => none
  | some b => K b) else none
theorem v_iald {j n : Nat} {i : Int32} {K : Int32 → Option (ρ × zM)} (hL : L[j]? = some (100, n)) (hd : decode cc pc = .ok (.iaload, 1)) (h : ∀ x, zV emb l G L R k yn cc nL rt (pc + 1) lv (.int x :: st) M (K x)) : zV emb l G L R k yn cc nL rt pc lv (.int i :: .ref j :: st) M (rd M j n i K) := by
  intro r M' hr p e s m args below meth c H locs ls ad cx hP hD hS hl
  unfold rd at hr
  by_cases hi : zin i n = true
  · rw [if_pos hi] at hr
    exact va_iald cx.1 cx.2.1 cx.2.2.2.2.2.2.2.1 hP j 0 (zW_i hL) rfl (zin_vp hi) hd (h _ r M' hr p e s m args below meth c H locs ls ad cx hP hD hS hl)
  · rw [if_neg hi] at hr
    cases hr
theorem v_iast {j n : Nat} {i x : Int32} {K : zM → Option (ρ × zM)} (hL : L[j]? = some (100, n)) (hd : decode cc pc = .ok (.iastore, 1)) (h : ∀ M1, zV emb l G L R k yn cc nL rt (pc + 1) lv st M1 (K M1)) : zV emb l G L R k yn cc nL rt pc lv (.int x :: .int i :: .ref j :: st) M (wr M j n i (x) K) := by
  intro r M' hr p e s m args below meth c H locs ls ad cx hP hD hS hl
  unfold wr at hr
  by_cases hi : zin i n = true
  · rw [if_pos hi] at hr
    refine va_iast cx.1 cx.2.1 cx.2.2.2.2.2.2.2.1 hP hD hS j 0 (zW_i hL) rfl (zin_vp hi) hd (fun H1 locs1 hP1 hD1 hS1 => ?_)
    have he := zW_set (G := G) (ad := ad) (M := M) (R := R) (k := i.toNatClampNeg) (x := x) (e := .inl (G.2 0, n, .inl (upd (M j) i.toNatClampNeg (x)))) hL rfl
    exact h _ r M' hr p e s m args below meth c H1 locs1 ls ad cx (by rw [← he]; exact hP1) (by rw [← he]; exact hD1) hS1 hl
  · rw [if_neg hi] at hr
    cases hr
theorem v_bald {j n : Nat} {i : Int32} {K : Int32 → Option (ρ × zM)} (hL : L[j]? = some (101, n)) (hd : decode cc pc = .ok (.baload, 1)) (h : ∀ x, zV emb l G L R k yn cc nL rt (pc + 1) lv (.int x :: st) M (K x)) : zV emb l G L R k yn cc nL rt pc lv (.int i :: .ref j :: st) M (rd M j n i K) := by
  intro r M' hr p e s m args below meth c H locs ls ad cx hP hD hS hl
  unfold rd at hr
  by_cases hi : zin i n = true
  · rw [if_pos hi] at hr
    exact va_bald cx.1 cx.2.1 cx.2.2.2.2.2.2.2.1 hP j 1 (zW_b hL) rfl (zin_vp hi) hd (h _ r M' hr p e s m args below meth c H locs ls ad cx hP hD hS hl)
  · rw [if_neg hi] at hr
    cases hr
theorem v_bast {j n : Nat} {i x : Int32} {K : zM → Option (ρ × zM)} (hL : L[j]? = some (101, n)) (hd : decode cc pc = .ok (.bastore, 1)) (h : ∀ M1, zV emb l G L R k yn cc nL rt (pc + 1) lv st M1 (K M1)) : zV emb l G L R k yn cc nL rt pc lv (.int x :: .int i :: .ref j :: st) M (wr M j n i (vp_nar .byte x) K) := by
  intro r M' hr p e s m args below meth c H locs ls ad cx hP hD hS hl
  unfold wr at hr
  by_cases hi : zin i n = true
  · rw [if_pos hi] at hr
    refine va_bast cx.1 cx.2.1 cx.2.2.2.2.2.2.2.1 hP hD hS j 1 (zW_b hL) rfl (zin_vp hi) hd (fun H1 locs1 hP1 hD1 hS1 => ?_)
    have he := zW_set (G := G) (ad := ad) (M := M) (R := R) (k := i.toNatClampNeg) (x := vp_nar .byte x) (e := .inl (G.2 1, n, .inl (upd (M j) i.toNatClampNeg (vp_nar .byte x)))) hL rfl
    exact h _ r M' hr p e s m args below meth c H1 locs1 ls ad cx (by rw [← he]; exact hP1) (by rw [← he]; exact hD1) hS1 hl
  · rw [if_neg hi] at hr
    cases hr
theorem v_zald {j n : Nat} {i : Int32} {K : Int32 → Option (ρ × zM)} (hL : L[j]? = some (102, n)) (hd : decode cc pc = .ok (.baload, 1)) (h : ∀ x, zV emb l G L R k yn cc nL rt (pc + 1) lv (.int x :: st) M (K x)) : zV emb l G L R k yn cc nL rt pc lv (.int i :: .ref j :: st) M (rd M j n i K) := by
  intro r M' hr p e s m args below meth c H locs ls ad cx hP hD hS hl
  unfold rd at hr
  by_cases hi : zin i n = true
  · rw [if_pos hi] at hr
    exact va_zald cx.1 cx.2.1 cx.2.2.2.2.2.2.2.1 hP j 2 (zW_z hL) rfl (zin_vp hi) hd (h _ r M' hr p e s m args below meth c H locs ls ad cx hP hD hS hl)
  · rw [if_neg hi] at hr
    cases hr
theorem v_zast {j n : Nat} {i x : Int32} {K : zM → Option (ρ × zM)} (hL : L[j]? = some (102, n)) (hd : decode cc pc = .ok (.bastore, 1)) (h : ∀ M1, zV emb l G L R k yn cc nL rt (pc + 1) lv st M1 (K M1)) : zV emb l G L R k yn cc nL rt pc lv (.int x :: .int i :: .ref j :: st) M (wr M j n i (vp_nar .boolean x) K) := by
  intro r M' hr p e s m args below meth c H locs ls ad cx hP hD hS hl
  unfold wr at hr
  by_cases hi : zin i n = true
  · rw [if_pos hi] at hr
    refine va_zast cx.1 cx.2.1 cx.2.2.2.2.2.2.2.1 hP hD hS j 2 (zW_z hL) rfl (zin_vp hi) hd (fun H1 locs1 hP1 hD1 hS1 => ?_)
    have he := zW_set (G := G) (ad := ad) (M := M) (R := R) (k := i.toNatClampNeg) (x := vp_nar .boolean x) (e := .inl (G.2 2, n, .inl (upd (M j) i.toNatClampNeg (vp_nar .boolean x)))) hL rfl
    exact h _ r M' hr p e s m args below meth c H1 locs1 ls ad cx (by rw [← he]; exact hP1) (by rw [← he]; exact hD1) hS1 hl
  · rw [if_neg hi] at hr
    cases hr
theorem v_naald {j n : Nat} {i : Int32} {K : Nat → Option (ρ × zM)} (hL : L[j]? = some (103, n)) (hd : decode cc pc = .ok (.aaload, 1)) (h : ∀ b, zin i n = true → R j i.toNatClampNeg = some b → zV emb l G L R k yn cc nL rt (pc + 1) lv (.ref b :: st) M (K b)) : zV emb l G L R k yn cc nL rt pc lv (.int i :: .ref j :: st) M (rr R j n i K) := by
  intro r M' hr p e s m args below meth c H locs ls ad cx hP hD hS hl
  unfold rr at hr
  by_cases hi : zin i n = true
  · rw [if_pos hi] at hr
    cases hb : R j i.toNatClampNeg with
    | none => rw [hb] at hr; cases hr
    | some b =>
      rw [hb] at hr
      refine va_aldq cx.1 cx.2.1 cx.2.2.2.2.2.2.2.1 hP j 3 (zW_n hL) rfl (zin_vp hi) hd ?_
      rw [show va_rf ((R j i.toNatClampNeg).map ad) = Value.ref (ad b) by rw [hb]; rfl]
      exact h b hi hb r M' hr p e s m args below meth c H locs ls ad cx hP hD hS hl
  · rw [if_neg hi] at hr
    cases hr
theorem v_paald {j n : Nat} {i : Int32} {K : Nat → Option (ρ × zM)} (hL : L[j]? = some (104, n)) (hd : decode cc pc = .ok (.aaload, 1)) (h : ∀ b, zin i n = true → R j i.toNatClampNeg = some b → zV emb l G L R k yn cc nL rt (pc + 1) lv (.ref b :: st) M (K b)) : zV emb l G L R k yn cc nL rt pc lv (.int i :: .ref j :: st) M (rr R j n i K) := by
  intro r M' hr p e s m args below meth c H locs ls ad cx hP hD hS hl
  unfold rr at hr
  by_cases hi : zin i n = true
  · rw [if_pos hi] at hr
    cases hb : R j i.toNatClampNeg with
    | none => rw [hb] at hr; cases hr
    | some b =>
      rw [hb] at hr
      refine va_aldq cx.1 cx.2.1 cx.2.2.2.2.2.2.2.1 hP j 4 (zW_p hL) rfl (zin_vp hi) hd ?_
      rw [show va_rf ((R j i.toNatClampNeg).map ad) = Value.ref (ad b) by rw [hb]; rfl]
      exact h b hi hb r M' hr p e s m args below meth c H locs ls ad cx hP hD hS hl
  · rw [if_neg hi] at hr
    cases hr
theorem v_alen {j n : Nat} (v : Int32) (hL : L[j]? = some (100, n)) (hv : Int32.ofNat n = v) (hd : decode cc pc = .ok (.arraylength, 1)) (h : zV emb l G L R k yn cc nL rt (pc + 1) lv (.int v :: st) M res) : zV emb l G L R k yn cc nL rt pc lv (.ref j :: st) M res := by
  intro r M' hr p e s m args below meth c H locs ls ad cx hP hD hS hl
  exact va_alen (ty := .int) cx.1 cx.2.1 cx.2.2.2.2.2.2.2.1 hP j 0 (zW_i hL) rfl hv hd (h r M' hr p e s m args below meth c H locs ls ad cx hP hD hS hl)
/-! a switch -/
def zsw {α : Type} (x : Int32) : Nat → List (Option α) → Option α → Option α
  | _, [], d => d
  | i, r :: rs, d => if x = nI i then r else zsw x (i + 1) rs d
theorem zsw_hit {α : Type} {x : Int32} {d : Option α} : ∀ (rs : List (Option α)) (i j : Nat) (r : Option α), i + rs.length < 2 ^ 31 → rs[j]? = some r → x = nI (i + j) → zsw x i rs d = r
  | [], _, _, _, _, h, _ => by cases h
  | a :: rs, i, 0, r, _, h, hx => by
    rw [zsw, if_pos (by simpa using hx)]
    exact Option.some.inj h
  | a :: rs, i, j + 1, r, hn, h, hx => by
    rw [List.length_cons] at hn
    have hj : j < rs.length := (List.getElem?_eq_some_iff.mp (show rs[j]? = some r from h)).1
    rw [zsw, if_neg (by rw [hx, nI_eq (by omega) (by omega)]; omega)]
    exact zsw_hit rs (i + 1) j r (by omega) h (by rw [hx]; congr 1; omega)
theorem zsw_out {α : Type} {x : Int32} {d : Option α} : ∀ (rs : List (Option α)) (i : Nat), (∀ j, j < rs.length → ¬ x = nI (i + j)) → zsw x i rs d = d
  | [], _, _ => rfl
  | a :: rs, i, h => by
    rw [zsw, if_neg (by simpa using h 0 (Nat.zero_lt_succ _))]
    exact zsw_out rs (i + 1) (fun j hj hx => h (j + 1) (by rw [List.length_cons]; omega) (by rw [hx]; congr 1; omega))
def zAll {α β : Type} (P : α → β → Prop) : List α → List β → Prop
  | [], [] => True
  | t :: ts, r :: rs => P t r ∧ zAll P ts rs
  | _, _ => False
theorem zAll_at {α β : Type} {P : α → β → Prop} : ∀ {ts : List α} {rs : List β}, zAll P ts rs → ∀ (i : Nat) (tg : α) (r : β), ts[i]? = some tg → rs[i]? = some r → P tg r
  | [], [], _, i, _, _, h, _ => by cases h
  | a :: ts, b :: rs, h, 0, tg, r, h1, h2 => by
    cases Option.some.inj h1
    cases Option.some.inj h2
    exact h.1
  | a :: ts, b :: rs, h, i + 1, tg, r, h1, h2 => zAll_at h.2 i tg r h1 h2
  | [], b :: rs, h, _, _, _, _, _ => h.elim
  | a :: ts, [], h, _, _, _, _, _ => h.elim
theorem v_tsw {x : Int32} {dflt hi : Int} {offs : Array Int} {len dt : Nat} {d : Option (ρ × zM)} (ts : List Nat) (rs : List (Option (ρ × zM))) (hd : decode cc pc = .ok (.tableswitch dflt 0 hi offs, len)) (hlen : ts.length = rs.length) (hhi : hi + 1 = (ts.length : Int)) (hsm : ts.length < 1000) (ho : offs.toList.map (fun o : Int => (pc : Int) + o) = ts.map (fun t : Nat => (t : Int))) (hdt : (pc : Int) + dflt = (dt : Int))
    (hA : zAll (fun (tgt : Nat) (r1 : Option (ρ × zM)) => zV emb l G L R k yn cc nL rt tgt lv st M r1) ts rs) (h2 : zV emb l G L R k yn cc nL rt dt lv st M d) : zV emb l G L R k yn cc nL rt pc lv (.int x :: st) M (zsw x 0 rs d) := by
  intro r M' hr p e s m args below meth c H locs ls ad cx hP hD hS hl
  have h := zAll_at hA
  by_cases hx : x.toInt < 0 ∨ hi < x.toInt
  · refine lv_tableOut (tgt := dt) cx.1 cx.2.1 hd hx hdt (h2 r M' ?_ p e s m args below meth c H locs ls ad cx hP hD hS hl)
    rw [zsw_out] at hr
    · exact hr
    · intro j hj e1
      rw [e1, Nat.zero_add, nI_toInt (by omega)] at hx
      omega
  · have h1 : ¬ x.toInt < 0 := fun q => hx (Or.inl q)
    have h3 : ¬ hi < x.toInt := fun q => hx (Or.inr q)
    obtain ⟨i, hi1⟩ : ∃ i : Nat, x.toInt = (i : Int) := ⟨x.toInt.toNat, by omega⟩
    have hil : i < ts.length := by omega
    have hxi : x = nI (0 + i) := by
      apply Int32.toInt_inj.mp
      rw [Nat.zero_add, nI_toInt (by omega), hi1]
    obtain ⟨tgt, htg⟩ : ∃ t, ts[i]? = some t := ⟨_, List.getElem?_eq_getElem hil⟩
    obtain ⟨r1, hr1⟩ : ∃ t, rs[i]? = some t := ⟨_, List.getElem?_eq_getElem (by omega)⟩
    rw [zsw_hit rs 0 i r1 (by omega) hr1 hxi] at hr
    have ho2 : (offs.toList.map (fun o : Int => (pc : Int) + o))[i]? = some ((tgt : Nat) : Int) := by rw [ho, List.getElem?_map, htg]; rfl
    rw [List.getElem?_map] at ho2
    obtain ⟨off, hoff, hoe⟩ := Option.map_eq_some_iff.mp ho2
    refine lv_tableIn (off := off) (tgt := tgt) cx.1 cx.2.1 hd h1 h3 ?_ hoe (h i tgt r1 htg hr1 r M' hr p e s m args below meth c H locs ls ad cx hP hD hS hl)
    rw [← Array.getElem?_toList, show (x.toInt - 0).toNat = i by omega]
    exact hoff
/-! calls -/
theorem zD_any {ad : Nat → Nat} {M1 : zM} (h : va_D (zA ad L) (zW G ad L M R)) : va_D (zA ad L) (zW G ad L M1 R) := by
  have at1 : ∀ (i : Nat) (q : Nat × va_E), (zW G ad L M1 R)[i]? = some q → ∃ q0, (zW G ad L M R)[i]? = some q0 ∧ q0.1 = q.1 := by
    intro i q hq
    simp only [zW, List.getElem?_mapIdx] at hq ⊢
    obtain ⟨d, hd, rfl⟩ := Option.map_eq_some_iff.mp hq
    exact ⟨(ad i, zE G ad d (M i) (R i)), by rw [hd]; rfl, rfl⟩
  refine ⟨fun i j x y hx hy hxy => ?_, fun i q hq => ?_⟩
  · obtain ⟨x0, h1, h2⟩ := at1 i x hx
    obtain ⟨y0, h3, h4⟩ := at1 j y hy
    exact h.1 i j x0 y0 h1 h3 (by rw [h2, h4, hxy])
  · obtain ⟨q0, h1, h2⟩ := at1 i q hq
    rw [← h2]
    exact h.2 i q0 h1
theorem zS_moved {ad : Nat → Nat} {s U : State} {H : Heap} {locs : List Loc} (h : zS ad L s) (hS : va_S (zA ad L) s.heap H locs) (hU : U.heap = H) (hW : s.WarmedH U.vm) : zS ad L U := by
  obtain ⟨v, hv, hF⟩ := h.2.2.2
  refine ⟨?_, fun i hi => (h.2.1 i hi).warm hW, ?_, v, hv, ?_⟩
  · exact (vk_S.moved hW.alike (h.1)).kept (fun a h1 h2 => by rw [hU]; exact hS.2.1 a h1 h2)
  · exact (va_Z.moved hW.alike h.2.2.1).kept (fun a h1 h2 => by rw [hU]; exact hS.2.1 a h1 h2)
  · exact (va_Z.moved hW.alike hF).kept (fun a h1 h2 => by rw [hU]; exact hS.2.1 a h1 h2)
theorem zPre_blind {ad : Nat → Nat} {av : List Value} : FrameBlind (zPre G L R ad av M) := by
  intro a U g mk q
  obtain ⟨h1, h2, h3, h4, h5⟩ := q
  obtain ⟨v5, hv5⟩ := h5.2.2.2
  refine ⟨h1, h2, h3, va_K.moved (u := U) (U := U.calling g mk a) (Vm.Alike.refl U.vm) h4, ?_⟩
  exact ⟨vk_S.moved (u := U) (U := U.calling g mk a) (Vm.Alike.refl U.vm) h5.1, fun i hi => vk_R.same (u := U) (U := U.calling g mk a) rfl (h5.2.1 i hi), va_Z.moved (u := U) (U := U.calling g mk a) (Vm.Alike.refl U.vm) h5.2.2.1, hv5.elim fun hv hF => ⟨_, hv, va_Z.moved (u := U) (U := U.calling g mk a) (Vm.Alike.refl U.vm) hF⟩⟩
theorem z_call {p : Program} {e : Env} {Rm : Room} {s : State} {m : MethodId} {args a : Array Value} {below : List Frame} {meth : Method} {c : Code} {H : Heap} {locs : List Loc} {ls : Array Slot} {ad : Nat → Nat} {v : Option Value} {M1 : zM} {rest st0 : List Value} {Q : State → Prop}
    (hr : va_Run p l e Rm s m args below meth c H locs 0 0 0 0 (F0 m pc ls st0) rest (zQ G ad L R v M1 a) (zA ad L)) (hS : va_S (zA ad L) s.heap H locs)
    (kk : ∀ (H1 : Heap) (locs1 : List Loc), va_P G.1 vwCl (zW G ad L M1 R) H1 → va_S (zA ad L) s.heap H1 locs1 → W p l e Rm s m args below meth c H1 locs1 0 0 Q (F0 m (pc + 3) ls ((v.map (zev ad)).toList ++ rest))) : W p l e Rm s m args below meth c H locs 0 0 Q (F0 m pc ls st0) := by
  intro T hT X
  obtain ⟨v1, st₀, t, T', L1, h0, X', hL, e1, e2, ⟨⟨hv, hp⟩, hz, hk⟩, st⟩ := hr T hT X
  have hv1 : v1 = v.map (zev ad) := by injection hv
  subst hv1
  rw [h0] at hz hk
  obtain ⟨t2, a1, b1⟩ := kk T'.heap (locs ++ L1) (by rw [e1]; exact hp)
    ⟨Nat.le_trans hS.1 (by rw [e1]; exact hz), fun q h1 h2 => by rw [e1, hk q (Nat.lt_of_lt_of_le h1 hS.1) h2]; exact hS.2.1 q h1 h2, fun q hq => by
      rcases List.mem_append.mp hq with h | h
      · exact hS.2.2 q h
      · exact hL q h⟩ T' rfl X'
  exact ⟨t2, st t2 a1, b1⟩
def zcB (y : MethodName) (cc : ByteArray) (nL : Nat) (rt : Option FieldType) (n : Nat) : Prop := Cond.initialized y.cls ∈ zbig ∧ Cond.code y cc nL rt ∈ zbig ∧ (y.cls ≠ "java/lang/invoke/MethodHandle" ∧ y.cls ≠ "java/lang/invoke/VarHandle" ∧ (parseMethodDescriptor y.desc).map (fun d => d.parameters.length) = some n)
def zcV (y : MethodName) (cc : ByteArray) (nL : Nat) (rt : Option FieldType) (n : Nat) : Prop := zcB y cc nL rt n ∧ Cond.instanceMethod y ∈ zbig ∧ Cond.selects y.cls y y ∈ zbig
def zcS (y : MethodName) (cc : ByteArray) (nL : Nat) (rt : Option FieldType) (n : Nat) : Prop := zcB y cc nL rt n ∧ Cond.static y ∈ zbig
theorem zcB.call {y : MethodName} {cc1 : ByteArray} {nL1 : Nat} {rt1 : Option FieldType} {n k1 idx : Nat} {own : String} {s : State} {args : Array Value} (h : zcB y cc1 nL1 rt1 n) (hts : ∀ w ∈ zbig, w.before args s = true) (hw : Cond.methodLink own idx y ∈ zbig) (hk : k1 + 1 ≤ k ∧ 8 + (nL1 + 11) + 64 * k1 ≤ 64 * k) : CallB (zrm k) s args own idx y cc1 nL1 rt1 (zws y cc1 nL1 rt1) (zrm k1) 0 0 n := by
  refine callB_of n hts (zgoodIn (fun w hw => ?_)) rfl rfl rfl (hts _ h.1) (hts _ hw) h.2.2 hk
  rcases List.mem_cons.mp hw with rfl | hw
  · exact h.2.1
  · exact hw
theorem v_callV {ρ1 : Type} {emb1 : ρ1 → Option Value} {y : MethodName} {cc1 : ByteArray} {nL1 : Nat} {rt1 : Option FieldType} {k1 idx b t n0 N : Nat} {As : List Value} {res1 : Option (ρ1 × zM)} {K : ρ1 → zM → Option (ρ × zM)} {C : String} {T : u_T} {ty : Nat → FieldType}
    (hc : zC emb1 l G L R k1 y cc1 nL1 rt1 (.ref b :: As) M res1) (hy : zcV y cc1 nL1 rt1 As.length) (hK : zK t C T N ty) (hC : y.cls = C) (hL : L[b]? = some (t, n0)) (hw : Cond.methodLink yn.cls idx y ∈ zbig) (hk : k1 + 1 ≤ k ∧ 8 + (nL1 + 11) + 64 * k1 ≤ 64 * k) (hst : (st.map fun v => v.category).sum ≤ 8) (hd : decode cc pc = .ok (.invokevirtual idx, 3))
    (h : ∀ (r1 : ρ1) (M1 : zM), zV emb l G L R k yn cc nL rt (pc + 3) lv ((emb1 r1).toList ++ st) M1 (K r1 M1)) : zV emb l G L R k yn cc nL rt pc lv (As.reverse ++ .ref b :: st) M (cl res1 K) := by
  intro r M' hr p e s m args below meth c H locs ls ad cx hP hD hS hl
  cases hres : res1 with
  | none => rw [hres] at hr; cases hr
  | some q =>
    obtain ⟨r1, M1⟩ := q
    rw [hres] at hr
    have hM := hc r1 M1 hres ad
    subst hC
    refine z_call (v := emb1 r1) (M1 := M1) (va_runV (As := As.map (zev ad)) (b := ad b) (rest := st.map (zev ad)) ⟨cx.1, cx.2.1, cx.2.2.1, cx.2.2.2.2.2.1, cx.2.2.2.2.2.2.1⟩ hM ⟨hy.1.call cx.2.2.2.2.2.2.1 hw hk, cx.2.2.2.2.2.2.1 _ hy.2.1, cx.2.2.2.2.2.2.1 _ hy.2.2⟩
      ⟨zPre_blind, va_recv cx.2.2.2.2.2.2.2.1 hP hK.1 (zW_obj hK.2.2.2.2.1 hL), fun U hU hW => ⟨rfl, by rw [hU]; exact hP, hD, va_K.moved hW.alike cx.2.2.2.2.2.2.2.1, zS_moved cx.2.2.2.2.2.2.2.2 hS hU hW⟩⟩ rfl (by simp) hl.1 (by simp [zev]) (lv_room (by simpa [Function.comp_def, zev_cat] using hst)) hd ⟨Nat.le_refl _, Nat.le_refl _⟩) hS (fun H1 locs1 hP1 hS1 => ?_)
    have hz := h r1 M1 r M' hr p e s m args below meth c H1 locs1 ls ad cx hP1 (zD_any hD) hS1 hl
    have he : ((emb1 r1).toList ++ st).map (zev ad) = ((emb1 r1).map (zev ad)).toList ++ st.map (zev ad) := by cases emb1 r1 <;> simp
    rw [he] at hz
    exact hz
theorem v_callS {ρ1 : Type} {emb1 : ρ1 → Option Value} {y : MethodName} {cc1 : ByteArray} {nL1 : Nat} {rt1 : Option FieldType} {k1 idx : Nat} {As : List Value} {res1 : Option (ρ1 × zM)} {K : ρ1 → zM → Option (ρ × zM)}
    (hc : zC emb1 l G L R k1 y cc1 nL1 rt1 As M res1) (hy : zcS y cc1 nL1 rt1 As.length) (hw : Cond.methodLink yn.cls idx y ∈ zbig) (hk : k1 + 1 ≤ k ∧ 8 + (nL1 + 11) + 64 * k1 ≤ 64 * k) (hst : (st.map fun v => v.category).sum ≤ 8) (hd : decode cc pc = .ok (.invokestatic idx, 3))
    (h : ∀ (r1 : ρ1) (M1 : zM), zV emb l G L R k yn cc nL rt (pc + 3) lv ((emb1 r1).toList ++ st) M1 (K r1 M1)) : zV emb l G L R k yn cc nL rt pc lv (As.reverse ++ st) M (cl res1 K) := by
  intro r M' hr p e s m args below meth c H locs ls ad cx hP hD hS hl
  cases hres : res1 with
  | none => rw [hres] at hr; cases hr
  | some q =>
    obtain ⟨r1, M1⟩ := q
    rw [hres] at hr
    have hM := hc r1 M1 hres ad
    refine z_call (v := emb1 r1) (M1 := M1) (va_runS (As := As.map (zev ad)) (rest := st.map (zev ad)) ⟨cx.1, cx.2.1, cx.2.2.1, cx.2.2.2.2.2.1, cx.2.2.2.2.2.2.1⟩ hM ⟨hy.1.call cx.2.2.2.2.2.2.1 hw hk, cx.2.2.2.2.2.2.1 _ hy.2⟩
      ⟨zPre_blind, fun U hU hW => ⟨rfl, by rw [hU]; exact hP, hD, va_K.moved hW.alike cx.2.2.2.2.2.2.2.1, zS_moved cx.2.2.2.2.2.2.2.2 hS hU hW⟩⟩ rfl (by simp) hl.1 (by simp) (lv_room (by simpa [Function.comp_def, zev_cat] using hst)) hd ⟨Nat.le_refl _, Nat.le_refl _⟩) hS (fun H1 locs1 hP1 hS1 => ?_)
    have hz := h r1 M1 r M' hr p e s m args below meth c H1 locs1 ls ad cx hP1 (zD_any hD) hS1 hl
    have he : ((emb1 r1).toList ++ st).map (zev ad) = ((emb1 r1).map (zev ad)).toList ++ st.map (zev ad) := by cases emb1 r1 <;> simp
    rw [he] at hz
    exact hz
end zRows
