/-! PURE: ways, in the reference; step ways -/
section wyY
variable {n : Nat} {E : List (Nat × Nat)}
def opG (E : List (Nat × Nat)) (gn : Nat → Nat) : opT := fun x y => gA E x y && (if (E.getD (gL E x y) (0, 0)).1 = x then decide (¬ gn (gL E x y) = 1) else decide (¬ gn (gL E x y) = 2))
theorem gL_uni (hW : gW n E) {l x y : Nat} {e : Nat × Nat} (he : E[l]? = some e) (hs : gS x y e = true) : gA E x y = true ∧ gL E x y = l := by
  have hg : gA E x y = true := List.any_eq_true.mpr ⟨e, List.mem_of_getElem? he, hs⟩
  refine ⟨hg, ?_⟩
  obtain ⟨f, f1, f2⟩ := gL_get hg
  have hlt1 := (List.getElem?_eq_some_iff.mp he)
  have hlt2 := (List.getElem?_eq_some_iff.mp f1)
  obtain ⟨a1, a2⟩ := hlt1
  obtain ⟨b1, b2⟩ := hlt2
  have hpw := List.pairwise_iff_getElem.mp hW.2.2.2
  rcases Nat.lt_trichotomy (gL E x y) l with z | z | z
  · have := hpw (gL E x y) l b1 a1 z
    rw [b2, a2, gS_trans f2 hs] at this
    cases this
  · exact z
  · have := hpw l (gL E x y) a1 b1 z
    rw [a2, b2, gS_trans hs f2] at this
    cases this
theorem opG_at (hW : gW n E) {gn : Nat → Nat} {l x y : Nat} {e : Nat × Nat} (he : E[l]? = some e) (hs : gS x y e = true) : opG E gn x y = if e.1 = x then decide (¬ gn l = 1) else decide (¬ gn l = 2) := by
  obtain ⟨h1, h2⟩ := gL_uni hW he hs
  unfold opG
  rw [h1, h2, Bool.true_and, List.getD_eq_getElem?_getD, he]
  rfl
theorem opG_gA {gn : Nat → Nat} {x y : Nat} (h : opG E gn x y = true) : gA E x y = true := by
  unfold opG at h
  rw [Bool.and_eq_true] at h
  exact h.1
/-- a line is used, as the reference does it -/
theorem opG_step (hW : gW n E) {gn : Nat → Nat} (hg2 : ∀ l, gn l ≤ 2) {l pp cc : Nat} {e : Nat × Nat} (he : E[l]? = some e) (hs : gS pp cc e = true) (ho : opG E gn pp cc = true) : opG E (fup gn l (if ¬ gn l = 0 then 0 else if e.2 = cc then 1 else 2)) = opP (opG E gn) pp cc := by
  have hsr : gS cc pp e = true := by rw [gS_comm]; exact hs
  have hne := (hW.get he).2.2.2
  have hgl := hg2 l
  have h1 := opG_at hW (gn := gn) he hs
  have h2 := opG_at hW (gn := gn) he hsr
  have h3 := opG_at hW (gn := fup gn l (if ¬ gn l = 0 then 0 else if e.2 = cc then 1 else 2)) he hs
  have h4 := opG_at hW (gn := fup gn l (if ¬ gn l = 0 then 0 else if e.2 = cc then 1 else 2)) he hsr
  rw [fup_eq] at h3 h4
  have hpc : ¬ pp = cc := by
    rcases gS_true hs with ⟨u1, u2⟩ | ⟨u1, u2⟩
    · rw [← u1, ← u2]
      exact hne
    · rw [← u1, ← u2]
      exact fun z => hne z.symm
  have hcp : ¬ cc = pp := fun z => hpc z.symm
  have key : opG E (fup gn l (if ¬ gn l = 0 then 0 else if e.2 = cc then 1 else 2)) pp cc = opP (opG E gn) pp cc pp cc ∧ opG E (fup gn l (if ¬ gn l = 0 then 0 else if e.2 = cc then 1 else 2)) cc pp = opP (opG E gn) pp cc cc pp := by
    generalize opG E (fup gn l (if ¬ gn l = 0 then 0 else if e.2 = cc then 1 else 2)) = GG2 at h3 h4 ⊢
    rw [ho] at h1
    unfold opP
    rcases gS_true hs with ⟨u1, u2⟩ | ⟨u1, u2⟩
    · rw [if_pos u1] at h1 h3
      rw [if_neg (fun z => hpc (u1.symm.trans z))] at h2 h4
      rw [if_pos u2] at h3 h4
      have hn1 : ¬ gn l = 1 := of_decide_eq_true h1.symm
      obtain z | z : gn l = 0 ∨ gn l = 2 := by omega
      · rw [z] at h2 h3 h4
        rw [h3, h4, if_pos (show opG E gn cc pp = true by rw [h2]; decide), opU_at, opU_ne (fun q => hcp q.1), h2]
        decide
      · rw [z] at h2 h3 h4
        rw [h3, h4, if_neg (show ¬ opG E gn cc pp = true by rw [h2]; decide), opU_at, opU_ne (fun q => hpc q.1), ho]
        decide
    · rw [if_neg (fun z => hcp (u1.symm.trans z))] at h1 h3
      rw [if_pos u1] at h2 h4
      have hec : ¬ e.2 = cc := fun z => hpc (u2.symm.trans z)
      rw [if_neg hec] at h3 h4
      have hn1 : ¬ gn l = 2 := of_decide_eq_true h1.symm
      obtain z | z : gn l = 0 ∨ gn l = 1 := by omega
      · rw [z] at h2 h3 h4
        rw [h3, h4, if_pos (show opG E gn cc pp = true by rw [h2]; decide), opU_at, opU_ne (fun q => hcp q.1), h2]
        decide
      · rw [z] at h2 h3 h4
        rw [h3, h4, if_neg (show ¬ opG E gn cc pp = true by rw [h2]; decide), opU_at, opU_ne (fun q => hpc q.1), ho]
        decide
  funext x y
  by_cases c1 : x = pp ∧ y = cc
  · rw [c1.1, c1.2]
    exact key.1
  · by_cases c2 : x = cc ∧ y = pp
    · rw [c2.1, c2.2]
      exact key.2
    · rw [opP_other c1 c2]
      unfold opG
      by_cases hgl2 : gA E x y = true ∧ gL E x y = l
      · exfalso
        obtain ⟨f, f1, f2⟩ := gL_get hgl2.1
        rw [hgl2.2, he] at f1
        rw [← Option.some.inj f1] at f2
        rcases gS_true hs with ⟨u1, u2⟩ | ⟨u1, u2⟩ <;> rcases gS_true f2 with ⟨w1, w2⟩ | ⟨w1, w2⟩
        · exact c1 ⟨w1.symm.trans u1, w2.symm.trans u2⟩
        · exact c2 ⟨w2.symm.trans u2, w1.symm.trans u1⟩
        · exact c2 ⟨w1.symm.trans u1, w2.symm.trans u2⟩
        · exact c1 ⟨w2.symm.trans u2, w1.symm.trans u1⟩
      · cases hgg : gA E x y with
        | false => rfl
        | true =>
          have : ¬ gL E x y = l := fun z => hgl2 ⟨hgg, z⟩
          rw [fup_ne this]
def GY (M : zM) (E : List (Nat × Nat)) (gn : Nat → Nat) : Prop := (∀ l, gn l ≤ 2) ∧ ∀ l, l < E.length → M 22 l = nI (gn l)
def RPY (E : List (Nat × Nat)) (op : opT) (par : Nat → Int32) (QQ : List Nat) : Prop := ∀ j q : Nat, 0 < j → QQ[j]? = some q → ∃ (i p l : Nat) (e : Nat × Nat), i < j ∧ QQ[i]? = some p ∧ par q = nI l ∧ E[l]? = some e ∧ gS p q e = true ∧ op p q = true
def BY23 (M : zM) (n : Nat) (QQ : List Nat) : Prop := ∀ q, q < n → ((0 : Int32) ≤ M 23 q ↔ q ∈ QQ)
/-- one look at a line -/
theorem look_Y {M : zM} (hW : gW n E) (hN : NetY M n E) {gn : Nat → Nat} (hG : GY M E gn) {v1 v2 v3 v4 : Int32} {pp l : Nat} {e : Nat × Nat} (hp : pp < n) (he : E[l]? = some e) (k43 : Int32 → Int32 → Int32 → Int32 → zM → Option (Int32 × zM)) (fu : Nat) :
    (∃ q, q < n ∧ gS pp q e = true ∧ opG E gn pp q = true ∧ fMd_oneMore_61 k43 (fu + 1) v1 v2 v3 v4 (nI pp) (nI l) M = fMd_oneMore_161 (fMd_oneMore_61 k43 fu) v1 v2 v3 v4 (nI pp) (nI l) (nI q) M) ∨
    ((∀ q, gS pp q e = true → opG E gn pp q = false) ∧ fMd_oneMore_61 k43 (fu + 1) v1 v2 v3 v4 (nI pp) (nI l) M = fMd_oneMore_161 (fMd_oneMore_61 k43 fu) v1 v2 v3 v4 (nI pp) (nI l) (-1) M) := by
  have hn := hW.1.2
  have hl30 := hW.2.1
  obtain ⟨l30, e1n, e2n, hne⟩ := hW.get he
  have hll := (List.getElem?_eq_some_iff.mp he).1
  have hm := hN.2.2 l e he
  have hg := hG.2 l hll
  have hg2 := hG.1 l
  have q1 : (nI e.1 = nI pp) ↔ e.1 = pp := nI_eq (by omega) (by omega)
  have q2 : (nI e.2 = nI pp) ↔ e.2 = pp := nI_eq (by omega) (by omega)
  have g1 : (nI (gn l) = 1) ↔ gn l = 1 := nI_eq (b := 1) (by omega) (by decide)
  have g2 : (nI (gn l) = 2) ↔ gn l = 2 := nI_eq (b := 2) (by omega) (by decide)
  have ex : fMd_oneMore_61 k43 (fu + 1) v1 v2 v3 v4 (nI pp) (nI l) M = if (e.1 = pp ∧ ¬ gn l = 1) then fMd_oneMore_161 (fMd_oneMore_61 k43 fu) v1 v2 v3 v4 (nI pp) (nI l) (nI e.2) M else if (e.2 = pp ∧ ¬ gn l = 2) then fMd_oneMore_161 (fMd_oneMore_61 k43 fu) v1 v2 v3 v4 (nI pp) (nI l) (nI e.1) M else fMd_oneMore_161 (fMd_oneMore_61 k43 fu) v1 v2 v3 v4 (nI pp) (nI l) (-1) M := by
    have r : ∀ {c : Nat} {K : Int32 → Option (Int32 × zM)}, rd M c 30 (nI l) K = K (M c l) := rd_ok l30 (by decide)
    rw [fMd_oneMore_61, hN.2.1, if_neg (nI_ge hll (by omega)), r, hm.1, r, hg]
    unfold fMd_oneMore_97 fMd_oneMore_98 fMd_oneMore_127 fMd_oneMore_128
    simp only [r, hm.1, hm.2, hg, q1, q2, g1, g2]
    by_cases c1 : e.1 = pp <;> by_cases c2 : e.2 = pp <;> by_cases c3 : gn l = 1 <;> by_cases c4 : gn l = 2 <;> simp [c1, c2, c3, c4]
  rw [ex]
  by_cases c1 : e.1 = pp
  · have hs : gS pp e.2 e = true := by rw [← c1]; exact gS_self e
    have ho := opG_at hW (gn := gn) he hs
    rw [if_pos c1] at ho
    by_cases c3 : gn l = 1
    · right
      have c2 : ¬ e.2 = pp := fun z => hne (c1.trans z.symm)
      refine ⟨fun q hq => ?_, by rw [if_neg (fun z => z.2 c3), if_neg (fun z => c2 z.1)]⟩
      have := opG_at hW (gn := gn) he hq
      rw [if_pos c1, decide_eq_false (not_not_intro c3)] at this
      exact this
    · left
      exact ⟨e.2, e2n, hs, by rw [ho]; exact decide_eq_true c3, by rw [if_pos ⟨c1, c3⟩]⟩
  · by_cases c2 : e.2 = pp
    · have hs : gS pp e.1 e = true := by rw [← c2, gS_comm]; exact gS_self e
      have ho := opG_at hW (gn := gn) he hs
      rw [if_neg c1] at ho
      by_cases c4 : gn l = 2
      · right
        refine ⟨fun q hq => ?_, by rw [if_neg (fun z => c1 z.1), if_neg (fun z => z.2 c4)]⟩
        have := opG_at hW (gn := gn) he hq
        rw [if_neg c1, decide_eq_false (not_not_intro c4)] at this
        exact this
      · left
        exact ⟨e.1, e1n, hs, by rw [ho]; exact decide_eq_true c4, by rw [if_neg (fun z => c1 z.1), if_pos ⟨c2, c4⟩]⟩
    · right
      refine ⟨fun q hq => ?_, by rw [if_neg (fun z => c1 z.1), if_neg (fun z => c2 z.1)]⟩
      rcases gS_true hq with ⟨w1, w2⟩ | ⟨w1, w2⟩
      · exact absurd w1 c1
      · exact absurd w2 c2
theorem lines_Y {M M0 : zM} (hW : gW n E) (hN : NetY M0 n E) {gn : Nat → Nat} (hG : GY M0 E gn) {v2 : Int32} {aa pp hd : Nat} (hp : pp < n) {QQ : List Nat} (hpQ : QQ[hd]? = some pp) (hQ : RQ n aa QQ) (h7 : ∀ j q : Nat, QQ[j]? = some q → M 7 j = nI q) (hP : RPY E (opG E gn) (M 23) QQ) (hB : BY23 M n QQ) (hf : fq (fun c _ => c = 7 ∨ c = 23) M0 M) (k43 : Int32 → Int32 → Int32 → Int32 → zM → Option (Int32 × zM)) :
    ∃ (Q2 : List Nat) (M2 : zM), fMd_oneMore_61 k43 FU (nI aa) v2 (nI QQ.length) (nI hd) (nI pp) 0 M = k43 (nI aa) v2 (nI Q2.length) (nI (hd + 1)) M2 ∧ RQ n aa Q2 ∧ (∀ j q : Nat, Q2[j]? = some q → M2 7 j = nI q) ∧ RPY E (opG E gn) (M2 23) Q2 ∧ BY23 M2 n Q2 ∧ (∀ j q : Nat, QQ[j]? = some q → Q2[j]? = some q) ∧ (∀ y, opG E gn pp y = true → y ∈ Q2) ∧ fq (fun c _ => c = 7 ∨ c = 23) M0 M2 := by
  have hn := hW.1.2
  have hl30 := hW.2.1
  refine lpE (f := fun fu l (Q2 : List Nat) M => fMd_oneMore_61 k43 fu (nI aa) v2 (nI Q2.length) (nI hd) (nI pp) (nI l) M) (n := E.length)
    (I := fun l Q2 M2 => RQ n aa Q2 ∧ (∀ j q : Nat, Q2[j]? = some q → M2 7 j = nI q) ∧ RPY E (opG E gn) (M2 23) Q2 ∧ BY23 M2 n Q2 ∧ (∀ j q : Nat, QQ[j]? = some q → Q2[j]? = some q) ∧ (∀ (k y : Nat) (e : Nat × Nat), k < l → E[k]? = some e → gS pp y e = true → opG E gn pp y = true → y ∈ Q2) ∧ fq (fun c _ => c = 7 ∨ c = 23) M0 M2)
    (R := fun o => ∃ (Q2 : List Nat) (M2 : zM), o = k43 (nI aa) v2 (nI Q2.length) (nI (hd + 1)) M2 ∧ RQ n aa Q2 ∧ (∀ j q : Nat, Q2[j]? = some q → M2 7 j = nI q) ∧ RPY E (opG E gn) (M2 23) Q2 ∧ BY23 M2 n Q2 ∧ (∀ j q : Nat, QQ[j]? = some q → Q2[j]? = some q) ∧ (∀ y, opG E gn pp y = true → y ∈ Q2) ∧ fq (fun c _ => c = 7 ∨ c = 23) M0 M2) ?_ ?_ 0 FU QQ M (by omega) (fu_ok (by omega)) ⟨hQ, h7, hP, hB, fun j q hq => hq, fun k y e hk => by omega, hf⟩
  · rintro fu Q2 M2 ⟨g1, g2, g3, g4, g5, g6, g7⟩
    refine ⟨Q2, M2, ?_, g1, g2, g3, g4, g5, fun y hy => ?_, g7⟩
    · rw [fMd_oneMore_61, g7 0 1 (by omega), hN.2.1, if_pos (nI_le (by omega) (by omega)), nI_1]
    · obtain ⟨e, e1, e2⟩ := gL_get (opG_gA hy)
      exact g6 _ y e (List.getElem?_eq_some_iff.mp e1).1 e1 e2 hy
  · rintro fu l Q2 M2 hl ⟨g1, g2, g3, g4, g5, g6, g7⟩
    right
    have hl2 := RQ_len g1
    obtain ⟨e, he⟩ : ∃ e, E[l]? = some e := ⟨_, List.getElem?_eq_getElem hl⟩
    have hN2 := fq_netY g7 hN (fun k => by omega)
    have hG2 : GY M2 E gn := ⟨hG.1, fun k hk => by rw [g7 22 k (by omega)]; exact hG.2 k hk⟩
    rcases look_Y hW hN2 hG2 (v1 := nI aa) (v2 := v2) (v3 := nI Q2.length) (v4 := nI hd) hp he k43 fu with ⟨q, q1, q2, q3, q4⟩ | ⟨q1, q2⟩
    · rw [q4, fMd_oneMore_161, if_neg (nI_nlt0 (by omega)), rd_ok (show q < 12 by omega) (by decide), nI_1, nI_1]
      simp only [g4 q q1]
      have same : ∀ y, gS pp y e = true → y = q := fun y hy => by
        rcases gS_true q2 with ⟨u1, u2⟩ | ⟨u1, u2⟩ <;> rcases gS_true hy with ⟨w1, w2⟩ | ⟨w1, w2⟩
        · exact w2.symm.trans u2
        · exact absurd (u1.trans w2.symm) (hW.get he).2.2.2
        · exact absurd (w1.trans u2.symm) (hW.get he).2.2.2
        · exact w1.symm.trans u1
      by_cases hqQ : q ∈ Q2
      · rw [if_pos hqQ]
        refine ⟨Q2, M2, rfl, g1, g2, g3, g4, g5, fun k y f hk hf2 hs hy => ?_, g7⟩
        by_cases hkl : k = l
        · rw [hkl, he] at hf2
          rw [← Option.some.inj hf2] at hs
          rw [same y hs]
          exact hqQ
        · exact g6 k y f (by omega) hf2 hs hy
      · rw [if_neg hqQ]
        have hR2 := RQ_add g1 q1 hqQ
        have hl3 := (RQ_len hR2).1
        rw [List.length_append, List.length_singleton] at hl3
        rw [wr_ok (show q < 12 by omega) (by decide), wr_ok (show Q2.length < 12 by omega) (by decide)]
        refine ⟨Q2 ++ [q], zs (zs M2 23 q (nI l)) 7 Q2.length (nI q), by rw [List.length_append]; rfl, hR2, fun j x hx => ?_, fun j x hj hx => ?_, fun x hx => ?_, fun j x hx => app_left (g5 j x hx), fun k y f hk hf2 hs hy => ?_, fq_zs (fq_zs g7 (by omega)) (by omega)⟩
        · rcases app_get hx with ⟨c1, c2⟩ | ⟨c1, c2⟩
          · rw [zs_nk (by omega), zs_nc (by decide)]
            exact g2 j x c2
          · rw [c1, c2, zs_eq]
        · rw [zs_nc (by decide)]
          rcases app_get hx with ⟨c1, c2⟩ | ⟨c1, c2⟩
          · obtain ⟨i0, p0, l0, e0, d1, d2, d3, d4, d5, d6⟩ := g3 j x hj c2
            refine ⟨i0, p0, l0, e0, d1, app_left d2, ?_, d4, d5, d6⟩
            rw [zs_nk (show ¬ x = q from fun z => hqQ (z ▸ List.mem_of_getElem? c2))]
            exact d3
          · have hpi := g5 hd pp hpQ
            refine ⟨hd, pp, l, e, ?_, app_left hpi, by rw [c2, zs_eq], he, by rw [c2]; exact q2, by rw [c2]; exact q3⟩
            have := (List.getElem?_eq_some_iff.mp hpi).1
            omega
        · rw [zs_nc (by decide), mem_app1]
          by_cases hxq : x = q
          · rw [hxq, zs_eq]
            simp only [or_true, iff_true]
            exact nI_ge0 (by omega)
          · rw [zs_nk hxq, g4 x hx]
            simp [hxq]
        · by_cases hkl : k = l
          · rw [hkl, he] at hf2
            rw [← Option.some.inj hf2] at hs
            rw [same y hs]
            exact mem_app1.mpr (Or.inr rfl)
          · exact mem_app1.mpr (Or.inl (g6 k y f (by omega) hf2 hs hy))
    · rw [q2, fMd_oneMore_161, if_pos (by decide), nI_1]
      refine ⟨Q2, M2, rfl, g1, g2, g3, g4, g5, fun k y f hk hf2 hs hy => ?_, g7⟩
      by_cases hkl : k = l
      · rw [hkl, he] at hf2
        rw [← Option.some.inj hf2] at hs
        rw [q1 y hs] at hy
        cases hy
      · exact g6 k y f (by omega) hf2 hs hy
end wyY
