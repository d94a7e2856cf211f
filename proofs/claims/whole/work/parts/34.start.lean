theorem zch_all {A B : Type} {r : A → B → Prop} (h : ∀ x, ∃ y, r x y) : ∃ f : A → B, ∀ x, r x (f x) := ⟨fun x => (h x).choose, fun x => (h x).choose_spec⟩
theorem l_five {P : Nat → Prop} (h0 : P 0) (h1 : P 1) (h2 : P 2) (h3 : P 3) (h4 : P 4) : ∀ i, i < 5 → P i := fun i hi => by
  rcases (show i = 0 ∨ i = 1 ∨ i = 2 ∨ i = 3 ∨ i = 4 by omega) with rfl | rfl | rfl | rfl | rfl
  · exact h0
  · exact h1
  · exact h2
  · exact h3
  · exact h4
def l_tm (i : Nat) : Term := .string "NameNets$Script" (84 + 2 * i)
def l_vF (tF : Nat) (v : Value) : Value := match v with
  | .ref _ => .ref tF
  | w => w
def adOf (ad1 : Nat → Nat) (n : Nat) (adK adV : Nat → Nat) (tF : Nat) : Nat → Nat := fun j => if j < n then ad1 j else if j < 2000 then adK (j - 1000) else if j < 3000 then adV (j - 2000) else tF
theorem l_strK {args : Array Value} {s : State} (hgv : (Jvm.Cond.and given_1 narrow_1).before args s = true) : ∃ adK adV : Nat → Nat, vk_S 5 zlen zbyt adK adV (fun q => s.heap.size ≤ q) s s.heap ∧ ∀ i : Nat, i < 5 → (l_tm i).eval args s none [] s = some (.ref (adK i)) := by
  have hs := flat_of_before _ hgv
  refine vk_Sof (tm := l_tm) ?_ ?_ ?_ ?_ ?_ ?_ ?_ (fun a h => Nat.not_le.mpr h)
  · exact l_five (by decide) (by decide) (by decide) (by decide) (by decide)

  · exact l_five (hs _ (by decide +kernel)) (hs _ (by decide +kernel)) (hs _ (by decide +kernel)) (hs _ (by decide +kernel)) (hs _ (by decide +kernel))
  · exact l_five (hs _ (by decide +kernel)) (hs _ (by decide +kernel)) (hs _ (by decide +kernel)) (hs _ (by decide +kernel)) (hs _ (by decide +kernel))
  · exact l_five (hs _ (by decide +kernel)) (hs _ (by decide +kernel)) (hs _ (by decide +kernel)) (hs _ (by decide +kernel)) (hs _ (by decide +kernel))
  · exact l_five (hs _ (by decide +kernel)) (hs _ (by decide +kernel)) (hs _ (by decide +kernel)) (hs _ (by decide +kernel)) (hs _ (by decide +kernel))
  · refine l_five ?_ ?_ ?_ ?_ ?_
    · intro j hj
      have hj : j < 5 := hj
      rcases (show j = 0 ∨ j = 1 ∨ j = 2 ∨ j = 3 ∨ j = 4 by omega) with rfl | rfl | rfl | rfl | rfl
      · exact (hs _ (by decide +kernel))
      · exact (hs _ (by decide +kernel))
      · exact (hs _ (by decide +kernel))
      · exact (hs _ (by decide +kernel))
      · exact (hs _ (by decide +kernel))
    · intro j hj
      have hj : j < 6 := hj
      rcases (show j = 0 ∨ j = 1 ∨ j = 2 ∨ j = 3 ∨ j = 4 ∨ j = 5 by omega) with rfl | rfl | rfl | rfl | rfl | rfl
      · exact (hs _ (by decide +kernel))
      · exact (hs _ (by decide +kernel))
      · exact (hs _ (by decide +kernel))
      · exact (hs _ (by decide +kernel))
      · exact (hs _ (by decide +kernel))
      · exact (hs _ (by decide +kernel))
    · intro j hj
      have hj : j < 3 := hj
      rcases (show j = 0 ∨ j = 1 ∨ j = 2 by omega) with rfl | rfl | rfl
      · exact (hs _ (by decide +kernel))
      · exact (hs _ (by decide +kernel))
      · exact (hs _ (by decide +kernel))
    · intro j hj
      have hj : j < 6 := hj
      rcases (show j = 0 ∨ j = 1 ∨ j = 2 ∨ j = 3 ∨ j = 4 ∨ j = 5 by omega) with rfl | rfl | rfl | rfl | rfl | rfl
      · exact (hs _ (by decide +kernel))
      · exact (hs _ (by decide +kernel))
      · exact (hs _ (by decide +kernel))
      · exact (hs _ (by decide +kernel))
      · exact (hs _ (by decide +kernel))
      · exact (hs _ (by decide +kernel))
    · intro j hj
      have hj : j < 4 := hj
      rcases (show j = 0 ∨ j = 1 ∨ j = 2 ∨ j = 3 by omega) with rfl | rfl | rfl | rfl
      · exact (hs _ (by decide +kernel))
      · exact (hs _ (by decide +kernel))
      · exact (hs _ (by decide +kernel))
      · exact (hs _ (by decide +kernel))
  · intro i j hi hj hij
    revert hij hj j
    revert hi i
    refine l_five ?_ ?_ ?_ ?_ ?_
    · refine fun j hj => ?_
      revert hj j
      refine l_five ?_ ?_ ?_ ?_ ?_
      · exact fun h => absurd rfl h
      · exact fun _ => by first | exact Or.inl (hs _ (by decide +kernel)) | exact Or.inr (hs _ (by decide +kernel))
      · exact fun _ => by first | exact Or.inl (hs _ (by decide +kernel)) | exact Or.inr (hs _ (by decide +kernel))
      · exact fun _ => by first | exact Or.inl (hs _ (by decide +kernel)) | exact Or.inr (hs _ (by decide +kernel))
      · exact fun _ => by first | exact Or.inl (hs _ (by decide +kernel)) | exact Or.inr (hs _ (by decide +kernel))
    · refine fun j hj => ?_
      revert hj j
      refine l_five ?_ ?_ ?_ ?_ ?_
      · exact fun _ => by first | exact Or.inl (hs _ (by decide +kernel)) | exact Or.inr (hs _ (by decide +kernel))
      · exact fun h => absurd rfl h
      · exact fun _ => by first | exact Or.inl (hs _ (by decide +kernel)) | exact Or.inr (hs _ (by decide +kernel))
      · exact fun _ => by first | exact Or.inl (hs _ (by decide +kernel)) | exact Or.inr (hs _ (by decide +kernel))
      · exact fun _ => by first | exact Or.inl (hs _ (by decide +kernel)) | exact Or.inr (hs _ (by decide +kernel))
    · refine fun j hj => ?_
      revert hj j
      refine l_five ?_ ?_ ?_ ?_ ?_
      · exact fun _ => by first | exact Or.inl (hs _ (by decide +kernel)) | exact Or.inr (hs _ (by decide +kernel))
      · exact fun _ => by first | exact Or.inl (hs _ (by decide +kernel)) | exact Or.inr (hs _ (by decide +kernel))
      · exact fun h => absurd rfl h
      · exact fun _ => by first | exact Or.inl (hs _ (by decide +kernel)) | exact Or.inr (hs _ (by decide +kernel))
      · exact fun _ => by first | exact Or.inl (hs _ (by decide +kernel)) | exact Or.inr (hs _ (by decide +kernel))
    · refine fun j hj => ?_
      revert hj j
      refine l_five ?_ ?_ ?_ ?_ ?_
      · exact fun _ => by first | exact Or.inl (hs _ (by decide +kernel)) | exact Or.inr (hs _ (by decide +kernel))
      · exact fun _ => by first | exact Or.inl (hs _ (by decide +kernel)) | exact Or.inr (hs _ (by decide +kernel))
      · exact fun _ => by first | exact Or.inl (hs _ (by decide +kernel)) | exact Or.inr (hs _ (by decide +kernel))
      · exact fun h => absurd rfl h
      · exact fun _ => by first | exact Or.inl (hs _ (by decide +kernel)) | exact Or.inr (hs _ (by decide +kernel))
    · refine fun j hj => ?_
      revert hj j
      refine l_five ?_ ?_ ?_ ?_ ?_
      · exact fun _ => by first | exact Or.inl (hs _ (by decide +kernel)) | exact Or.inr (hs _ (by decide +kernel))
      · exact fun _ => by first | exact Or.inl (hs _ (by decide +kernel)) | exact Or.inr (hs _ (by decide +kernel))
      · exact fun _ => by first | exact Or.inl (hs _ (by decide +kernel)) | exact Or.inr (hs _ (by decide +kernel))
      · exact fun _ => by first | exact Or.inl (hs _ (by decide +kernel)) | exact Or.inr (hs _ (by decide +kernel))
      · exact fun h => absurd rfl h
theorem l_strings {b : Nat} {s : State} (hgv : (Jvm.Cond.and given_1 narrow_1).before #[Value.ref b] s = true) (hts : ∀ w ∈ lw_tbl, w.before #[Value.ref b] s = true) : ∃ (adK adV : Nat → Nat) (tF : Nat), ∀ (ad1 : Nat → Nat) (n : Nat) (L : List zD), L.length = n → n < 1000 → (∀ j, j < n → s.heap.size ≤ ad1 j) → zS (adOf ad1 n adK adV tF) L s := by
  have hs := flat_of_before _ hgv
  obtain ⟨adK, adV, hK, hev⟩ := l_strK hgv
  have hA : ∀ a : Nat, a < s.heap.size → ¬ (fun q => s.heap.size ≤ q) a := fun a h => Nat.not_le.mpr h
  have hZ : va_Z "java/lang/String" "COMPACT_STRINGS" "Z" (.int 1) (fun q => s.heap.size ≤ q) s s.heap := va_Zof (hts _ (List.mem_of_getElem? (i := 947) (by decide +kernel))) (hts _ (List.mem_of_getElem? (i := 96) (by decide +kernel))) (va_eqi (hs _ (by decide +kernel))) hA
  have hF : va_Zq "jdk/internal/util/Preconditions" "SIOOBE_FORMATTER" "Ljava/util/function/BiFunction;" (fun q => s.heap.size ≤ q) s s.heap := va_Zqof (hts _ (List.mem_of_getElem? (i := 963) (by decide +kernel))) (hts _ (List.mem_of_getElem? (i := 98) (by decide +kernel))) (hs _ (by decide +kernel)) hA
  have hR : ∀ i : Nat, i < 5 → vk_R "NameNets$Script" (84 + 2 * i) (ztxt i) (adK i) s := by
    refine fun i hi => ?_
    have h1 : (Cond.stringRef "NameNets$Script" (84 + 2 * i) (ztxt i)).before #[Value.ref b] s = true := by
      revert hi i
      exact l_five (hts _ (List.mem_of_getElem? (i := 929) (by decide +kernel))) (hts _ (List.mem_of_getElem? (i := 930) (by decide +kernel))) (hts _ (List.mem_of_getElem? (i := 931) (by decide +kernel))) (hts _ (List.mem_of_getElem? (i := 932) (by decide +kernel))) (hts _ (List.mem_of_getElem? (i := 933) (by decide +kernel)))
    exact vk_R.of h1 (hev i hi)
  obtain ⟨tF, v, hv, hFv⟩ : ∃ (tF : Nat) (v : Value), (v = .null ∨ v = .ref 3000) ∧ va_Z "jdk/internal/util/Preconditions" "SIOOBE_FORMATTER" "Ljava/util/function/BiFunction;" (l_vF tF v) (fun q => s.heap.size ≤ q) s s.heap := by
    rcases hF with h | ⟨t, h⟩
    · exact ⟨0, .null, Or.inl rfl, h⟩
    · exact ⟨t, .ref 3000, Or.inr rfl, h⟩
  refine ⟨adK, adV, tF, fun ad1 n L hL hn hge => ?_⟩
  have hsub : ∀ q, zA (adOf ad1 n adK adV tF) L q → s.heap.size ≤ q := by
    rintro q ⟨j, hj, rfl⟩
    have : adOf ad1 n adK adV tF j = ad1 j := by simp [adOf, show j < n by omega]
    rw [this]
    exact hge j (by omega)
  have eK : ∀ i : Nat, i < 5 → adOf ad1 n adK adV tF (1000 + i) = adK i := by
    intro i hi
    simp [adOf, show ¬ 1000 + i < n by omega, show 1000 + i < 2000 by omega]
  have eV : ∀ i : Nat, i < 5 → adOf ad1 n adK adV tF (2000 + i) = adV i := by
    intro i hi
    simp [adOf, show ¬ 2000 + i < n by omega, show ¬ 2000 + i < 2000 by omega, show 2000 + i < 3000 by omega]
  refine ⟨⟨fun i hi => ?_, fun i j hi hj he => ?_⟩, fun i hi => ?_, hZ.narrow hsub, v, ?_, ?_⟩
  · have h1 := ((vk_S.narrow hK hsub).1 i hi)
    dsimp only
    rw [eK i hi, eV i hi]
    exact h1
  · dsimp only at he
    rw [eK i hi, eK j hj] at he
    exact hK.2 i j hi hj he
  · rw [eK i hi]
    exact hR i hi
  · rcases hv with rfl | rfl <;> rfl
  · have e3 : zev (adOf ad1 n adK adV tF) v = l_vF tF v := by
      rcases hv with rfl | rfl
      · rfl
      · simp [zev, l_vF, adOf, show ¬ 3000 < n by omega]
    rw [e3]
    exact hFv.narrow hsub

theorem l_K {b : Nat} {s : State} (hts : ∀ w ∈ lw_tbl, w.before #[Value.ref b] s = true) : ∃ G : zG, va_K G.1 vwCl (zT G) s := by
  have hex : ∀ k : Nat, ∃ (cC : ClassId) (iS : Nat → Nat), ∀ q : vw_C, vwCl[k]? = some q → u_Kn s q.1 q.2.1 q.2.2 cC iS := by
    intro k
    match k with
    | 0 =>
      obtain ⟨c0, i0, h⟩ := u_known (C := RX0) (T := TX0) (N := 5) (n := 5) hts zki0 (hts _ (List.mem_of_getElem? (i := 338) (by decide +kernel)))
      exact ⟨c0, i0, fun q hq => by cases Option.some.inj hq; exact h⟩
    | 1 =>
      obtain ⟨c0, i0, h⟩ := u_known (C := RX1) (T := TX1) (N := 10) (n := 10) hts zki1 (hts _ (List.mem_of_getElem? (i := 218) (by decide +kernel)))
      exact ⟨c0, i0, fun q hq => by cases Option.some.inj hq; exact h⟩
    | 2 =>
      obtain ⟨c0, i0, h⟩ := u_known (C := RX2) (T := TX2) (N := 5) (n := 5) hts zki2 (hts _ (List.mem_of_getElem? (i := 225) (by decide +kernel)))
      exact ⟨c0, i0, fun q hq => by cases Option.some.inj hq; exact h⟩
    | 3 =>
      obtain ⟨c0, i0, h⟩ := u_known (C := RX3) (T := TX3) (N := 6) (n := 6) hts zki3 (hts _ (List.mem_of_getElem? (i := 109) (by decide +kernel)))
      exact ⟨c0, i0, fun q hq => by cases Option.some.inj hq; exact h⟩
    | 4 =>
      obtain ⟨c0, i0, h⟩ := u_known (C := RX4) (T := TX4) (N := 3) (n := 3) hts zki4 (hts _ (List.mem_of_getElem? (i := 282) (by decide +kernel)))
      exact ⟨c0, i0, fun q hq => by cases Option.some.inj hq; exact h⟩
    | 5 =>
      obtain ⟨c0, i0, h⟩ := u_known (C := RX5) (T := TX5) (N := 8) (n := 8) hts zki5 (hts _ (List.mem_of_getElem? (i := 303) (by decide +kernel)))
      exact ⟨c0, i0, fun q hq => by cases Option.some.inj hq; exact h⟩
    | 6 =>
      obtain ⟨c0, i0, h⟩ := u_known (C := RX6) (T := TX6) (N := 13) (n := 13) hts zki6 (hts _ (List.mem_of_getElem? (i := 376) (by decide +kernel)))
      exact ⟨c0, i0, fun q hq => by cases Option.some.inj hq; exact h⟩
    | 7 =>
      obtain ⟨c0, i0, h⟩ := u_known (C := RX7) (T := TX7) (N := 3) (n := 3) hts zki7 (hts _ (List.mem_of_getElem? (i := 360) (by decide +kernel)))
      exact ⟨c0, i0, fun q hq => by cases Option.some.inj hq; exact h⟩
    | 8 =>
      obtain ⟨c0, i0, h⟩ := u_known (C := RX8) (T := TX8) (N := 14) (n := 14) hts zki8 (hts _ (List.mem_of_getElem? (i := 155) (by decide +kernel)))
      exact ⟨c0, i0, fun q hq => by cases Option.some.inj hq; exact h⟩
    | 9 =>
      obtain ⟨c0, i0, h⟩ := u_known (C := RX9) (T := TX9) (N := 8) (n := 8) hts zki9 (hts _ (List.mem_of_getElem? (i := 101) (by decide +kernel)))
      exact ⟨c0, i0, fun q hq => by cases Option.some.inj hq; exact h⟩
    | 10 =>
      obtain ⟨c0, i0, h⟩ := u_known (C := RX10) (T := TX10) (N := 40) (n := 40) hts zki10 (hts _ (List.mem_of_getElem? (i := 1021) (by decide +kernel)))
      exact ⟨c0, i0, fun q hq => by cases Option.some.inj hq; exact h⟩
    | k + 11 => exact ⟨0, fun _ => 0, fun q hq => by simp [vwCl] at hq⟩
  obtain ⟨dC, hdC⟩ := zch_all hex
  obtain ⟨dI, hdI⟩ := zch_all hdC
  obtain ⟨c0, k0, m0, f0, g0, h0⟩ := Cond.arrayClass_spec (hts (.arrayClass .int) (List.mem_of_getElem? (i := 153) (by decide +kernel)))
  obtain ⟨c1, k1, m1, f1, g1, h1⟩ := Cond.arrayClass_spec (hts (.arrayClass .byte) (List.mem_of_getElem? (i := 430) (by decide +kernel)))
  obtain ⟨c2, k2, m2, f2, g2, h2⟩ := Cond.arrayClass_spec (hts (.arrayClass .boolean) (List.mem_of_getElem? (i := 1147) (by decide +kernel)))
  obtain ⟨m3, c3, k3, e3, -, g3, h3, f3⟩ := Cond.arrayOver_spec (hts (.arrayOver (.object "NameNets$Names")) (List.mem_of_getElem? (i := 224) (by decide +kernel)))
  obtain ⟨m4, c4, k4, e4, -, g4, h4, f4⟩ := Cond.arrayOver_spec (hts (.arrayOver (.object "NameNets$Page")) (List.mem_of_getElem? (i := 281) (by decide +kernel)))
  refine ⟨((dC, dI), fun i => if i = 0 then c0 else if i = 1 then c1 else if i = 2 then c2 else if i = 3 then c3 else c4), fun k q hq => hdI k q hq, fun k q hq => ?_⟩
  match k, hq with
  | 0, hq => cases Option.some.inj hq; exact ⟨fun _ _ => ⟨fun _ h => (by cases h), k0, g0, m0, h0⟩, f0⟩
  | 1, hq => cases Option.some.inj hq; exact ⟨fun _ _ => ⟨fun _ h => (by cases h), k1, g1, m1, h1⟩, f1⟩
  | 2, hq => cases Option.some.inj hq; exact ⟨fun _ _ => ⟨fun _ h => (by cases h), k2, g2, m2, h2⟩, f2⟩
  | 3, hq => cases Option.some.inj hq; exact ⟨fun _ _ => ⟨fun _ h => (by cases h), k3, g3, m3, h3⟩, k3, m3, g3, h3, e3, f3⟩
  | 4, hq => cases Option.some.inj hq; exact ⟨fun _ _ => ⟨fun _ h => (by cases h), k4, g4, m4, h4⟩, k4, m4, g4, h4, e4, f4⟩
  | k + 5, hq => simp [zT] at hq
theorem zW_Rcongr {G : zG} {ad : Nat → Nat} {L : List zD} {M : zM} {R R2 : zR} (h : ∀ (j : Nat) (d : zD), L[j]? = some d → zE G ad d (M j) (R j) = zE G ad d (M j) (R2 j)) : zW G ad L M R = zW G ad L M R2 := by
  apply List.ext_getElem?
  intro i
  simp only [zW, List.getElem?_mapIdx]
  cases hd : L[i]? with
  | none => rfl
  | some d => simp only [Option.map_some]; rw [h i d hd]
theorem zE_fld {G : zG} {ad : Nat → Nat} {t n : Nat} {mi : Nat → Int32} {r1 r2 : Nat → Option Nat} (ht : t < 100) (h : ∀ k, k < (zB t).length → (zB t)[k]? = some false → r1 k = r2 k) : zE G ad (t, n) mi r1 = zE G ad (t, n) mi r2 := by
  rw [zE_obj ht, zE_obj ht]
  congr 2
  apply List.ext_getElem?
  intro i
  simp only [zF, List.getElem?_mapIdx]
  cases hb : (zB t)[i]? with
  | none => rfl
  | some b =>
    cases b with
    | true => rfl
    | false =>
      have := h i (List.getElem?_eq_some_iff.mp hb).1 hb
      simp [this]
def zRok (L : List zD) (R1 R2 : zR) : Bool := (List.range L.length).all fun j => match L[j]? with
  | none => true
  | some d => if d.1 < 100 then (List.range (zB d.1).length).all (fun k => match (zB d.1)[k]? with
      | some false => R1 j k == R2 j k
      | _ => true) else true
theorem zRok_eq {G : zG} {ad : Nat → Nat} {L : List zD} {M : zM} {R1 R2 : zR} (h : zRok L R1 R2 = true) (hq : ∀ (j : Nat) (d : zD), L[j]? = some d → ¬ d.1 < 100 → R1 j = R2 j ∨ d.1 < 103) : zW G ad L M R1 = zW G ad L M R2 := by
  refine zW_Rcongr (fun j d hd => ?_)
  have hj : j < L.length := (List.getElem?_eq_some_iff.mp hd).1
  have h1 := List.all_eq_true.mp h j (List.mem_range.mpr hj)
  simp only [hd] at h1
  by_cases ht : d.1 < 100
  · rw [if_pos ht] at h1
    obtain ⟨t, n⟩ := d
    refine zE_fld ht (fun k hk hb => ?_)
    have h2 := List.all_eq_true.mp h1 k (List.mem_range.mpr hk)
    simp only [hb] at h2
    exact eq_of_beq h2
  · rcases hq j d hd ht with h3 | h3
    · rw [h3]
    · obtain ⟨t, n⟩ := d
      have : t = 100 ∨ t = 101 ∨ t = 102 := by
        have a : ¬ t < 100 := ht
        have b : t < 103 := h3
        omega
      rcases this with rfl | rfl | rfl <;> simp [zE]

