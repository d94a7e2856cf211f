theorem vP_left {D : va_G} {w1 w2 : va_W} {H : Heap} (h : va_P D vwCl (w1 ++ w2) H) : va_P D vwCl w1 H := fun k q hk => h k q (by rw [List.getElem?_append_left (List.getElem?_eq_some_iff.mp hk).1]; exact hk)
theorem vP_right {D : va_G} {w1 w2 : va_W} {H : Heap} (h : va_P D vwCl (w1 ++ w2) H) : va_P D vwCl w2 H := fun k q hk => h (w1.length + k) q (by rw [List.getElem?_append_right (Nat.le_add_right _ _), Nat.add_sub_cancel_left]; exact hk)
theorem vD_left {A : Nat → Prop} {w1 w2 : va_W} (h : va_D A (w1 ++ w2)) : va_D A w1 := ⟨fun i j x y hx hy he => h.1 i j x y (by rw [List.getElem?_append_left (List.getElem?_eq_some_iff.mp hx).1]; exact hx) (by rw [List.getElem?_append_left (List.getElem?_eq_some_iff.mp hy).1]; exact hy) he, fun k q hk => h.2 k q (by rw [List.getElem?_append_left (List.getElem?_eq_some_iff.mp hk).1]; exact hk)⟩
theorem vD_right {A : Nat → Prop} {w1 w2 : va_W} (h : va_D A (w1 ++ w2)) : va_D A w2 := ⟨fun i j x y hx hy he => by
    have := h.1 (w1.length + i) (w1.length + j) x y (by rw [List.getElem?_append_right (Nat.le_add_right _ _), Nat.add_sub_cancel_left]; exact hx) (by rw [List.getElem?_append_right (Nat.le_add_right _ _), Nat.add_sub_cancel_left]; exact hy) he
    omega, fun k q hk => h.2 (w1.length + k) q (by rw [List.getElem?_append_right (Nat.le_add_right _ _), Nat.add_sub_cancel_left]; exact hk)⟩
theorem zW_one {G : zG} {t q0 : Nat} {R : zR} {M : zM} (ht : t < 100) (hM : M 0 = fun _ => 0) (hR : R 0 = fun _ => none) : zW G (fun _ => q0) [(t, 0)] M R = [(q0, .inr (t, zF (fun _ => 0) (zB t) (fun _ => 0) (fun _ => none)))] := by
  have hz : zF (fun _ => q0) (zB t) (fun _ => 0) (fun _ => none) = zF (fun _ => 0) (zB t) (fun _ => 0) (fun _ => none) := by unfold zF; simp
  show [(q0, zE G (fun _ => q0) (t, 0) (M 0) (R 0))] = _
  rw [hM, hR, zE_obj ht, hz]
section lStart
variable {p : Program} {l : Launch} {e : Env} {s : State} {m : MethodId} {below : List Frame} {meth : Method} {c : Code} {G : zG} {b : Nat}
theorem l_mk {pc idx : Nat} {y : MethodName} {cc1 : ByteArray} {nL1 k1 mc1 ms1 q0 n1 n2 : Nat} {Lw L2 : List zD} {M M2 : zM} {R R2 : zR} {H : Heap} {locs : List Loc} {ls : Array Slot} {rest : List Value} {Q : State → Prop}
    (hx : p.tables.exec = Jvm.exec) (hb : c.code = code) (hml : c.maxLocals = 4) (hown : s.vm.findClass R_law = some m.cls) (hts : ∀ w ∈ zbig, w.before #[Value.ref b] s = true) (hK : va_K G.1 vwCl (zT G) s) (hO : nO s)
    (hc : nC l G k1 mc1 ms1 y cc1 nL1 [.ref 0] Lw M R L2 M2 R2) (hw : nW Lw.length R) (hlen : Lw.length = 1) (hy : zcB y cc1 nL1 none 0) (hyn : y.name = "<init>") (hyi : Cond.instanceMethod y ∈ zbig) (hw1 : Cond.methodLink R_law idx y ∈ zbig) (hk : k1 + 1 ≤ 2048 ∧ 8 + (nL1 + 11) + 64 * k1 ≤ 84000)
    (hP : va_P G.1 vwCl (zW G (fun _ => q0) Lw M R) H) (hD : va_D (fun _ => True) (zW G (fun _ => q0) Lw M R)) (hq0 : s.heap.size ≤ q0) (hS : va_S (fun q => s.heap.size ≤ q) s.heap H locs) (hls : ls.size = 4) (hcat : (rest.map fun v => v.category).sum ≤ 8) (hc1 : n1 + mc1 ≤ 600000 ∧ n2 + ms1 ≤ 7302250) (hd : decode code pc = .ok (.invokespecial idx, 3))
    (kk : ∀ (H1 : Heap) (locs1 : List Loc) (ad1 : Nat → Nat), ad1 0 = q0 → va_P G.1 vwCl (zW G ad1 L2 M2 R2) H1 → va_D (nA (fun _ => q0) 1 H.size) (zW G ad1 L2 M2 R2) → (∀ q : Nat, q < H.size → q ≠ q0 → H1[q]? = H[q]?) → H.size ≤ H1.size → va_S (fun q => s.heap.size ≤ q) s.heap H1 locs1 → W p l e room_1 s m #[Value.ref b] below meth c H1 locs1 (n1 + mc1) (n2 + ms1) Q (F0 m (pc + 3) ls rest)) :
    W p l e room_1 s m #[Value.ref b] below meth c H locs n1 n2 Q (F0 m pc ls (.ref q0 :: rest)) := by
  have hM := hc hw (fun _ => q0) H.size
  rw [hlen] at hM
  have hcb : CallB room_1 s #[Value.ref b] R_law idx y cc1 nL1 none (zws y cc1 nL1 none) (nrm k1 mc1 ms1) mc1 ms1 0 := by
    refine callB_of 0 hts (zgoodIn (fun w hw => ?_)) rfl rfl rfl (hts _ hy.1) (hts _ hw1) hy.2.2 hk
    rcases List.mem_cons.mp hw with rfl | hw
    · exact hy.2.1
    · exact hw
  have hrun := va_runI (As := []) (b := q0) (rest := rest) (g := F0 m pc ls (.ref q0 :: rest)) (R := room_1) (e := e) (below := below) (meth := meth) (H := H) (locs := locs) (cells := n1) (slots := n2) ⟨hx, hb, hml, hown, hts⟩ hM ⟨hcb, hyn, hts _ hyi⟩
    ⟨fun a U g mk q => ⟨q.1, q.2.1, q.2.2.1, q.2.2.2.1, va_K.moved (u := U) (U := U.calling g mk a) (Vm.Alike.refl U.vm) q.2.2.2.2.1, ⟨va_AO.moved (u := U) (U := U.calling g mk a) (Vm.Alike.refl U.vm) q.2.2.2.2.2.1, va_AO.moved (u := U) (U := U.calling g mk a) (Vm.Alike.refl U.vm) q.2.2.2.2.2.2⟩⟩, fun U hU hW => ⟨rfl, by rw [hU], by rw [hU]; exact hP, hD, va_K.moved hW.alike hK, nO_moved hO hW⟩⟩ rfl rfl hls rfl (lv_room hcat) hd hc1
  intro T hT X
  obtain ⟨v1, st₀, t, T', L3, hh0, X', hL, e1, e2, ⟨⟨hv, ad1, ha1, hp1, hd1⟩, hz, hkk⟩, stp⟩ := hrun T hT X
  have hv1 : v1 = none := by injection hv
  subst hv1
  rw [hh0] at hz hkk
  have hsz : s.heap.size ≤ H.size := hS.1
  have hsub : ∀ q, nA (fun _ => q0) 1 H.size q → s.heap.size ≤ q := by
    rintro q (⟨j, hj, rfl⟩ | hq)
    · exact hq0
    · exact Nat.le_trans hsz hq
  have hfin := kk T'.heap (locs ++ L3) ad1 (ha1 0 (by decide)) (by rw [e1]; exact hp1) hd1 (fun q h1 h2 => by
      rw [e1]
      refine hkk q h1 ?_
      rintro (⟨j, hj, rfl⟩ | hq)
      · exact h2 rfl
      · omega) (by rw [e1]; exact hz)
    ⟨Nat.le_trans hS.1 (by rw [e1]; exact hz), fun q h1 h2 => by rw [e1, hkk q (Nat.lt_of_lt_of_le h1 hS.1) (fun z => h2 (hsub q z))]; exact hS.2.1 q h1 h2, fun q hq => by
      rcases List.mem_append.mp hq with h | h
      · exact hS.2.2 q h
      · exact hsub _ (hL q h)⟩
  obtain ⟨t2, a1, b1⟩ := hfin T' rfl X'
  exact ⟨t2, stp t2 a1, b1⟩
theorem zW_addr {G : zG} {ad : Nat → Nat} {L : List zD} {M : zM} {R : zR} {j : Nat} (hj : j < L.length) : ∃ x : va_E, (zW G ad L M R)[j]? = some (ad j, x) := by
  obtain ⟨d, hd⟩ : ∃ d, L[j]? = some d := ⟨_, List.getElem?_eq_getElem hj⟩
  exact ⟨_, zW_get hd⟩
theorem zD_own {G : zG} {ad : Nat → Nat} {A : Nat → Prop} {L : List zD} {M : zM} {R : zR} (h : va_D A (zW G ad L M R)) : va_D (zA ad L) (zW G ad L M R) := by
  refine h.weaken (fun i q hq _ => ?_)
  simp only [zW, List.getElem?_mapIdx] at hq
  obtain ⟨d, hd, rfl⟩ := Option.map_eq_some_iff.mp hq
  exact ⟨i, (List.getElem?_eq_some_iff.mp hd).1, rfl⟩
theorem adOf_in {ad1 adK adV : Nat → Nat} {n tF j : Nat} (h : j < n) : adOf ad1 n adK adV tF j = ad1 j := by simp [adOf, h]
theorem rX_ok : zRok zLX (ri_NN_0 (fun _ _ => none)) zRX = true := by decide +kernel
theorem rY_ok : zRok zLY (ri_Md_0 (fun _ _ => none)) zRY = true := by decide +kernel
theorem rX_15 : ri_NN_0 (fun _ _ => none) 15 = zRX 15 ∧ ri_NN_0 (fun _ _ => none) 32 = zRX 32 := by
  have key : ∀ (R1 : zR) (c x0 x1 x2 : Nat), zRX c 0 = some x0 → zRX c 1 = some x1 → zRX c 2 = some x2 → (∀ k, 3 ≤ k → zRX c k = none) → R1 c 0 = some x0 → R1 c 1 = some x1 → R1 c 2 = some x2 → (∀ k, R1 c (k + 3) = none) → R1 c = zRX c := by
    intro R1 c x0 x1 x2 a0 a1 a2 a3 b0 b1 b2 b3
    funext k
    match k with
    | 0 => rw [a0, b0]
    | 1 => rw [a1, b1]
    | 2 => rw [a2, b2]
    | k + 3 => rw [a3 (k + 3) (by omega), b3]
  have hn : ∀ c k, (c = 15 ∨ c = 32) → 3 ≤ k → zRX c k = none := by
    intro c k hc hk
    unfold zRX
    rw [List.find?_eq_none.mpr]
    · rfl
    · intro q hq hh
      have h1 : zRXl.all (fun q => !(Nat.beq q.1 15 || Nat.beq q.1 32) || Nat.blt q.2.1 3) = true := by decide +kernel
      have h2 := List.all_eq_true.mp h1 q hq
      have h3 : q.1 = c ∧ q.2.1 = k := by
        rw [Bool.and_eq_true] at hh
        exact ⟨Nat.eq_of_beq_eq_true hh.1, Nat.eq_of_beq_eq_true hh.2⟩
      rw [h3.1, h3.2] at h2
      rcases hc with rfl | rfl
      · have h4 : Nat.blt k 3 = true := by simpa using h2
        have h5 := (Nat.blt_eq).mp h4
        omega
      · have h4 : Nat.blt k 3 = true := by simpa using h2
        have h5 := (Nat.blt_eq).mp h4
        omega
  exact ⟨key _ 15 23 26 29 rfl rfl rfl (fun k hk => hn 15 k (Or.inl rfl) hk) rfl rfl rfl (fun k => rfl), key _ 32 33 38 43 rfl rfl rfl (fun k hk => hn 32 k (Or.inr rfl) hk) rfl rfl rfl (fun k => rfl)⟩
theorem rX_arr : ∀ (j : Nat) (d : zD), zLX[j]? = some d → ¬ d.1 < 100 → ri_NN_0 (fun _ _ => none) j = zRX j ∨ d.1 < 103 := by
  intro j d hd h
  have h1 : (List.range zLX.length).all (fun j => match zLX[j]? with
    | none => true
    | some d => Nat.blt d.1 103 || Nat.beq j 15 || Nat.beq j 32) = true := by decide +kernel
  have h2 := List.all_eq_true.mp h1 j (List.mem_range.mpr (List.getElem?_eq_some_iff.mp hd).1)
  simp only [hd, Bool.or_eq_true] at h2
  rcases h2 with (h2 | h2) | h2
  · exact Or.inr ((Nat.blt_eq).mp h2)
  · have := Nat.eq_of_beq_eq_true h2
    subst this
    exact Or.inl rX_15.1
  · have := Nat.eq_of_beq_eq_true h2
    subst this
    exact Or.inl rX_15.2
theorem rY_arr : ∀ (j : Nat) (d : zD), zLY[j]? = some d → ¬ d.1 < 100 → ri_Md_0 (fun _ _ => none) j = zRY j ∨ d.1 < 103 := by
  intro j d hd h
  have h1 : (List.range zLY.length).all (fun j => match zLY[j]? with
    | none => true
    | some d => Nat.blt d.1 103) = true := by decide +kernel
  have h2 := List.all_eq_true.mp h1 j (List.mem_range.mpr (List.getElem?_eq_some_iff.mp hd).1)
  simp only [hd] at h2
  exact Or.inr ((Nat.blt_eq).mp h2)
end lStart
theorem zD_own' {G : zG} {ad : Nat → Nat} {A : Nat → Prop} {L : List zD} {M : zM} {R : zR} {ws : va_W} (he : zW G ad L M R = ws) (h : va_D A ws) : va_D (zA ad L) ws := by
  subst he
  exact zD_own h
