set_option maxHeartbeats 4000000 in
theorem whole_of {Rl : zM → zM → Nat → Prop} (hA : zSteps Rl) (hmono : ∀ Mx My n, Rl Mx My n → Rl Mx My (n + 1)) (hI : Rl (mi_NN_0 (fun _ _ => 0)) (mi_Md_0 (fun _ _ => 0)) 0) {p : Program} {e : Env} {s : State} {m : MethodId} {below : List Frame} {meth : Method} {c : Code} (l : Launch) {b L : Nat} {xs : Nat → Int32} (hL : L ≤ 2560) (C0 : lw_At p s m meth c b L xs) : W p l e room_1 s m #[Value.ref b] below meth c s.heap [] 0 0 (lw_Z below #[Value.ref b] s) (entryFrame m ([Value.ref b] : List Value).toArray 4) := by
  obtain ⟨hx, hb, hr, hml, hown, hts, hX, hbl, hlocks, hgv⟩ := id C0
  obtain ⟨G, hK⟩ := l_K hts
  obtain ⟨adK, adV, tF, hZ⟩ := l_strings hgv hts
  have hz : ∀ w ∈ zbig, w.before #[Value.ref b] s = true := fun w hw => hts w (List.mem_filter.mp hw).1
  have hO : nO s := ⟨va_AO.of (hts _ (List.mem_of_getElem? (i := 224) (by decide +kernel))), va_AO.of (hts _ (List.mem_of_getElem? (i := 281) (by decide +kernel)))⟩
  have hAA : ∀ q : Nat, s.heap.size ≤ q → (fun q : Nat => s.heap.size ≤ q) q := fun _ h => h
  have hS : va_S (fun q : Nat => s.heap.size ≤ q) s.heap s.heap [] := va_S.rf
  have hP : va_P G.1 vwCl [] s.heap := fun k q h => by simp at h
  have hD : va_D (fun q : Nat => s.heap.size ≤ q) [] := ⟨fun i j p q h => by simp at h, fun k q h => by simp at h⟩
  have hl := lv_entry ([.ref b]) (n := 4) (Nat.le_of_ble_eq_true rfl)
  rw [lg_entry_eq]
  generalize (lg_sl ([.ref b]) ++ List.replicate (4 - (lg_sl ([.ref b])).length) Slot.unset).toArray = ls at hl ⊢
  have hl : lv_has ls 4 [(0, .ref b)] := hl
  refine va_new (ci := 9) (fs := zF (fun _ => 0) (zB 9) (fun _ => 0) (fun _ => none)) (C := RX9) (T := TX9) (N := 8) hx hb hz zk9.2.1 tyX9 tyX9_ok hown (hz _ tw_100) (hz _ tw_101) (hz _ tw_81) hK hP hD hS hAA rfl (by decide) (Nat.le_of_ble_eq_true rfl) (Nat.le_of_ble_eq_true rfl) dL_law_0 (fun q0 H1 hP1 hD1 hS1 => ?_)
  refine lv_dup hx hb dL_law_3 rfl ?_
  have hz0 : ∀ ht : (9 : Nat) < 100, zW G (fun _ => q0) (zLX.take 1) (fun _ _ => 0) (fun _ _ => none) = [(q0, .inr (9, zF (fun _ => 0) (zB 9) (fun _ => 0) (fun _ => none)))] := fun ht => zW_one ht rfl rfl
  have hq0 : s.heap.size ≤ q0 := hD1.2 0 _ rfl
  refine l_mk (idx := 9) (q0 := q0) hx hb hml hown hz hK hO (ni_NN_0 l G (fun _ _ => 0) (fun _ _ => none)) (fun j k b h => by cases h) rfl zb_X9_init rfl tw_103 tw_102 (by decide) (by rw [hz0 (by decide)]; exact hP1) (by rw [hz0 (by decide)]; exact hD1.weaken (fun _ _ _ _ => trivial)) hq0 hS1 hl.1 (Nat.le_of_ble_eq_true rfl) (by decide) dL_law_4 (fun H2 locs2 ad1 ha0 hP2 hD2 hk2 hs2 hS2 => ?_)
  have hP2 : va_P G.1 vwCl (zW G ad1 zLX (mi_NN_0 (fun _ _ => 0)) (ri_NN_0 (fun _ _ => none))) H2 := hP2
  have hD2 : va_D (nA (fun _ => q0) 1 H1.size) (zW G ad1 zLX (mi_NN_0 (fun _ _ => 0)) (ri_NN_0 (fun _ _ => none))) := hD2
  refine lv_astore_n (lv' := [(1, .ref q0), (0, .ref b)]) hx hb dL_law_7 rfl hl (by decide) rfl (fun ls hl => ?_)
  have hge : ∀ j, j < 63 → s.heap.size ≤ ad1 j := by
    intro j hj
    obtain ⟨x, hx1⟩ := zW_addr (G := G) (ad := ad1) (L := zLX) (M := mi_NN_0 (fun _ _ => 0)) (R := ri_NN_0 (fun _ _ => none)) (j := j) hj
    rcases hD2.2 j _ hx1 with ⟨i, _, h1⟩ | h1
    · show s.heap.size ≤ ad1 j
      rw [show ad1 j = q0 from h1]
      exact hq0
    · exact Nat.le_trans hS1.1 h1
  have hDA : va_D (fun q : Nat => s.heap.size ≤ q) (zW G ad1 zLX (mi_NN_0 (fun _ _ => 0)) (ri_NN_0 (fun _ _ => none))) := ⟨hD2.1, fun k q hk => by
    simp only [zW, List.getElem?_mapIdx] at hk
    obtain ⟨d, hd, rfl⟩ := Option.map_eq_some_iff.mp hk
    exact hge k (List.getElem?_eq_some_iff.mp hd).1⟩
  refine va_new (ci := 10) (fs := zF (fun _ => 0) (zB 10) (fun _ => 0) (fun _ => none)) (C := RX10) (T := TX10) (N := 40) hx hb hz zk10.2.1 tyX10 tyX10_ok hown (hz _ tw_1020) (hz _ tw_1021) (hz _ tw_91) hK hP2 hDA hS2 hAA rfl (by decide) (Nat.le_of_ble_eq_true rfl) (Nat.le_of_ble_eq_true rfl) dL_law_8 (fun q1 H3 hP3 hD3 hS3 => ?_)
  refine lv_dup hx hb dL_law_11 rfl ?_
  have hy0 : ∀ ht : (10 : Nat) < 100, zW G (fun _ => q1) (zLY.take 1) (fun _ _ => 0) (fun _ _ => none) = [(q1, .inr (10, zF (fun _ => 0) (zB 10) (fun _ => 0) (fun _ => none)))] := fun ht => zW_one ht rfl rfl
  have hq1 : s.heap.size ≤ q1 := (vD_right hD3).2 0 _ rfl
  have hne1 : ∀ j, j < 63 → ad1 j ≠ q1 := by
    intro j hj he
    obtain ⟨x, hx1⟩ := zW_addr (G := G) (ad := ad1) (L := zLX) (M := mi_NN_0 (fun _ _ => 0)) (R := ri_NN_0 (fun _ _ => none)) (j := j) hj
    have hlen : (zW G ad1 zLX (mi_NN_0 (fun _ _ => 0)) (ri_NN_0 (fun _ _ => none))).length = 63 := by simp [zW]; rfl
    have := hD3.1 j 63 (ad1 j, x) (q1, .inr (10, zF (fun _ => 0) (zB 10) (fun _ => 0) (fun _ => none))) (by rw [List.getElem?_append_left (by omega)]; exact hx1) (by rw [List.getElem?_append_right (by omega), hlen]; rfl) he
    omega
  have hlt : ∀ j, j < 63 → ad1 j < H3.size := by
    intro j hj
    obtain ⟨x, hx1⟩ := zW_addr (G := G) (ad := ad1) (L := zLX) (M := mi_NN_0 (fun _ _ => 0)) (R := ri_NN_0 (fun _ _ => none)) (j := j) hj
    exact ((vP_left hP3) j _ hx1).lt
  refine l_mk (idx := 12) (q0 := q1) hx hb hml hown hz hK hO (ni_Md_0 l G (fun _ _ => 0) (fun _ _ => none)) (fun j k b h => by cases h) rfl zb_X10_init rfl tw_1023 tw_1022 (by decide) (by rw [hy0 (by decide)]; exact vP_right hP3) (by rw [hy0 (by decide)]; exact (vD_right hD3).weaken (fun _ _ _ _ => trivial)) hq1 hS3 hl.1 (Nat.le_of_ble_eq_true rfl) (by decide) dL_law_12 (fun H4 locs4 ad2 hb0 hP4 hD4 hk4 hs4 hS4 => ?_)
  have hP4 : va_P G.1 vwCl (zW G ad2 zLY (mi_Md_0 (fun _ _ => 0)) (ri_Md_0 (fun _ _ => none))) H4 := hP4
  have hD4 : va_D (nA (fun _ => q1) 1 H3.size) (zW G ad2 zLY (mi_Md_0 (fun _ _ => 0)) (ri_Md_0 (fun _ _ => none))) := hD4
  refine lv_astore_n (lv' := [(2, .ref q1), (1, .ref q0), (0, .ref b)]) hx hb dL_law_15 rfl hl (by decide) rfl (fun ls hl => ?_)
  refine lv_iconst (v := 0) hx hb dL_law_16 (by decide) ?_
  refine lv_istore_n (lv' := [(3, .int 0), (2, .ref q1), (1, .ref q0), (0, .ref b)]) hx hb dL_law_17 rfl hl (by decide) rfl (fun ls hl => ?_)
  have hge2 : ∀ j, j < 29 → ad2 j = q1 ∨ H3.size ≤ ad2 j := by
    intro j hj
    obtain ⟨x, hx1⟩ := zW_addr (G := G) (ad := ad2) (L := zLY) (M := mi_Md_0 (fun _ _ => 0)) (R := ri_Md_0 (fun _ _ => none)) (j := j) hj
    rcases hD4.2 j _ hx1 with ⟨i, _, h1⟩ | h1
    · exact Or.inl h1
    · exact Or.inr h1
  have hgeY : ∀ j, j < 29 → s.heap.size ≤ ad2 j := by
    intro j hj
    rcases hge2 j hj with h1 | h1
    · rw [h1]; exact hq1
    · exact Nat.le_trans hS3.1 h1
  have hX4 : va_P G.1 vwCl (zW G ad1 zLX (mi_NN_0 (fun _ _ => 0)) (ri_NN_0 (fun _ _ => none))) H4 := by
    refine (vP_left hP3).kept (fun k q hk => ?_)
    simp only [zW, List.getElem?_mapIdx] at hk
    obtain ⟨d, hd, rfl⟩ := Option.map_eq_some_iff.mp hk
    have hk63 : k < 63 := (List.getElem?_eq_some_iff.mp hd).1
    exact hk4 _ (hlt k hk63) (hne1 k hk63)
  have eX : zW G (adOf ad1 63 adK adV tF) zLX (mi_NN_0 (fun _ _ => 0)) zRX = zW G ad1 zLX (mi_NN_0 (fun _ _ => 0)) (ri_NN_0 (fun _ _ => none)) := by
    rw [← zRok_eq (G := G) (ad := adOf ad1 63 adK adV tF) (M := mi_NN_0 (fun _ _ => 0)) rX_ok rX_arr]
    exact zW_ad (nw_NN_0 (fun j k b h => by cases h)) (fun j hj => adOf_in hj)
  have eY : zW G (adOf ad2 29 adK adV tF) zLY (mi_Md_0 (fun _ _ => 0)) zRY = zW G ad2 zLY (mi_Md_0 (fun _ _ => 0)) (ri_Md_0 (fun _ _ => none)) := by
    rw [← zRok_eq (G := G) (ad := adOf ad2 29 adK adV tF) (M := mi_Md_0 (fun _ _ => 0)) rY_ok rY_arr]
    exact zW_ad (nw_Md_0 (fun j k b h => by cases h)) (fun j hj => adOf_in hj)
  have C : lCx p s m meth c G b L xs (adOf ad1 63 adK adV tF) (adOf ad2 29 adK adV tF) := by
    refine ⟨hx, hb, hml, hr, hlocks, hown, hts, hK, hX, hbl, ⟨hZ ad1 63 zLX rfl (by decide) hge, hZ ad2 29 zLY rfl (by decide) hgeY⟩, ?_, ?_, ?_⟩
    · intro i j hi hj
      rw [adOf_in hi, adOf_in hj]
      intro he
      rcases hge2 j hj with h1 | h1
      · exact hne1 i hi (he.trans h1)
      · have := hlt i hi
        omega
    · intro i hi
      rw [adOf_in hi]
      exact hge i hi
    · intro i hi
      rw [adOf_in hi]
      exact hgeY i hi
  have hloop := law_loop (l := l) (e := e) (below := below) (n1 := 0 + 1 + 62 + 1 + 28) (n2 := 0 + 8 + 1696 + 40 + 1815) C (by decide) hL hA hmono 512 0 _ _ (by omega) (by omega) (by omega) hI
  have hfin := hloop H4 locs4 ls ⟨by rw [eX]; exact hX4, by rw [eX]; exact zD_own' (ad := adOf ad1 63 adK adV tF) eX hD2⟩ ⟨by rw [eY]; exact hP4, by rw [eY]; exact zD_own' (ad := adOf ad2 29 adK adV tF) eY hD4⟩ hS4 ?_
  · exact hfin
  · refine ⟨hl.1, hl.2.1, fun q hq => ?_⟩
    have e0 : lad b (adOf ad1 63 adK adV tF) (adOf ad2 29 adK adV tF) 0 = b := rfl
    have e1 : lad b (adOf ad1 63 adK adV tF) (adOf ad2 29 adK adV tF) 1 = q0 := by
      show adOf ad1 63 adK adV tF 0 = q0
      rw [adOf_in (by decide)]
      exact ha0
    have e2 : lad b (adOf ad1 63 adK adV tF) (adOf ad2 29 adK adV tF) 2 = q1 := by
      show adOf ad2 29 adK adV tF 0 = q1
      rw [adOf_in (by decide)]
      exact hb0
    simp only [List.map_cons, List.map_nil, zep, zev, e0, e1, e2, List.mem_cons, List.not_mem_nil, or_false] at hq
    rcases hq with rfl | rfl | rfl | rfl
    · exact hl.2.2 _ (by simp)
    · exact hl.2.2 _ (by simp)
    · exact hl.2.2 _ (by simp)
    · exact hl.2.2 _ (by simp [nI_0])
