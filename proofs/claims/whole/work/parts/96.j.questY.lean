/-! PURE: reading, a question in the reference -/
section qyS
variable {tx : List Nat} {p q b n d : Nat} {E : List (Nat × Nat)}
abbrev zQy (d : Nat) : Nat → Nat → Prop := fun c k => zNy c k ∨ zY c k ∨ (c = 0 ∧ (k = 33 ∨ k = 34 ∨ k = 38)) ∨ (c = 27 ∧ k = d)
def oQy (M2 : zM) (tx : List Nat) (n : Nat) (E : List (Nat × Nat)) (d : Nat) : (Nat × Nat) ⊕ (Nat × List Nat × Nat) → Prop
  | .inl (k, pl) => M2 0 31 = nI k ∧ M2 0 32 = nI pl
  | .inr (w, acc, s) => tY M2 tx (s + 1) ∧ M2 0 31 = 0 ∧ M2 0 32 = -1 ∧ M2 0 38 = nI (d + 1) ∧ ∀ a b, acc[0]? = some a → acc[1]? = some b → qA n E w a b (lmk (acc.drop 2)) (M2 27 d)
theorem question_Y (ht : tOk tx) (hW : gW n E) {M : zM} (hd : d ≤ 12) (hp : p ≤ tx.length) (hp0 : rnB blk tx p = p) (hM : tY M tx p) (hN : NetY M n E) (h1 : M 0 31 = 0) (h2 : M 0 32 = -1) (h8 : M 0 38 = nI d) : ∃ M2, fMd_readQuestion M = some ((), M2) ∧ fq (zQy d) M M2 ∧ oQy M2 tx n E d (pQ tx n E.length d p) := by
  have ht1 := ht.1
  obtain ⟨M1, a1, a2, a3, a4⟩ := takeQ_Y ht hp hM
  rw [hp0] at a1 a2 a3
  have hq := rnB_le (f := ltr) hp
  have hf1 : fq (zQy d) M M1 := fun c k hc => a4 c k (by omega)
  have z1 : M1 0 31 = 0 := (a4 _ _ (by omega)).trans h1
  have z2 : M1 0 32 = -1 := (a4 _ _ (by omega)).trans h2
  have z8 : M1 0 38 = nI d := (a4 _ _ (by omega)).trans h8
  have n1 : NetY M1 n E := fq_netY a4 hN (fun k => by omega)
  rw [fMd_readQuestion, a1, cl_some]
  unfold pQ
  have bad : ∀ k, fq (zQy d) M (zs (zs M1 0 31 (nI k)) 0 32 (nI p)) := fun k => fq_zs (fq_zs hf1 (by omega)) (by omega)
  cases hw : wno tx p (rnB ltr tx p) 5 with
  | none =>
    rw [if_pos (show oI none < 0 by decide), fMd_readQuestion_15, a3, show fMd_want 0 1 (nI p) M1 = _ from want_0 (k := 1) z1 (by omega) (by omega), cl_some, if_pos rfl]
    exact ⟨_, rfl, bad 1, failed_Y.1, failed_Y.2.1⟩
  | some w =>
    have hw5 := wno_lt 5 w hw
    have ew : oI (some w) = nI w := rfl
    rw [ew, if_neg (nI_nlt0 (by omega)), fMd_readQuestion_15, want_1 z1, cl_some, if_neg (by decide), z8]
    by_cases hd2 : 12 ≤ d
    · rw [if_pos (show (12 : Int32) ≤ nI d from nI_le (a := 12) hd2 (by omega)), fMd_readQuestion_41, a3, show fMd_want 0 4 (nI p) M1 = _ from want_0 (k := 4) z1 (by omega) (by omega), cl_some, if_neg (fun z => z rfl)]
      refine ⟨_, rfl, bad 4, ?_⟩
      simp only [if_pos hd2]
      exact ⟨failed_Y.1, failed_Y.2.1⟩
    · rw [if_neg (show ¬ (12 : Int32) ≤ nI d from nI_ge (b := 12) (by omega) (by omega)), fMd_readQuestion_41, want_1 z1, cl_some, if_pos (by decide)]
      simp only [if_neg hd2]
      have hm8 : wmx w ≤ 8 ∧ 2 ≤ wmx w := by
        unfold wmx
        split <;> omega
      obtain ⟨M2, b1, b2⟩ := numbers_Y (kd := w) (mx := wmx w) ht hW hw5 rfl 9 FU [] (rnB ltr tx p) M1 (by simp; omega) (by decide) hq (by simp; omega) (Or.inl (by simp)) a2 n1 z1 z2 (fun i v hi => by simp at hi)
      have ok := pN_ok (tx := tx) (n := n) (m := E.length) hm8.2 9 [] (rnB ltr tx p) hq (by simp) (fun i v hi => by simp at hi)
      have e0 : fMd_readQuestion_57 FU (nI w) 0 1 M1 = fMd_readQuestion_57 FU (nI w) (nI ([] : List Nat).length) 1 M1 := rfl
      rw [e0]
      have hf2 : fq (zQy d) M M2 := fq_tr hf1 (fun c k hc => b1 c k (by omega))
      cases hN9 : pN tx n E.length (wmx w) 9 [] (rnB ltr tx p) with
      | inl x =>
        rw [hN9] at b2
        exact ⟨M2, b2.1, hf2, b2.2⟩
      | inr x =>
        obtain ⟨acc, s⟩ := x
        rw [hN9] at b2
        obtain ⟨t1, t2, t3, t4, t5⟩ := b2
        obtain ⟨o1, o2, o3, o4, o5⟩ := ok.2 acc s hN9
        obtain ⟨a, ha⟩ : ∃ a, acc[0]? = some a := ⟨_, List.getElem?_eq_getElem (by omega)⟩
        obtain ⟨b, hb⟩ : ∃ b, acc[1]? = some b := ⟨_, List.getElem?_eq_getElem (by omega)⟩
        have hq3 : fq (fun c k => c = 0 ∧ k = 30) M2 (zs M2 0 30 (nI (s + 1))) := fq_zs fq_rf ⟨rfl, rfl⟩
        have n3 : NetY (zs M2 0 30 (nI (s + 1))) n E := fq_netY hq3 (fq_netY b1 n1 (fun k => by omega)) (fun k => by omega)
        obtain ⟨r, M4, r1, r2, r3⟩ := answer_Y hW n3 hw5 ha hb o3 (by omega) (fun i v hi => (hq3 _ _ (by omega)).trans (t5 i v hi))
        have w8 : (zs M2 0 30 (nI (s + 1))) 0 38 = nI d := (hq3 _ _ (by omega)).trans ((b1 _ _ (by omega)).trans z8)
        have v8 : M4 0 38 = nI d := (r3 _ _ (by omega)).trans w8
        rw [t1, fMd_readQuestion_144, want_1 t3, cl_some, if_pos (by decide), wf_eq, t2.2.2, nI_1, r1, cl_some, w8, wr_ok (show d < 12 by omega) (by decide), wf_eq, zs_ne (by omega), v8, nI_1]
        have hq5 : fq (fun c k => (c = 27 ∧ k = d) ∨ (c = 0 ∧ k = 38)) M4 (zs (zs M4 27 d r) 0 38 (nI (d + 1))) := fq_zs (fq_zs fq_rf (by omega)) (by omega)
        have G : ∀ c k, ¬ zY c k → ¬ ((c = 27 ∧ k = d) ∨ (c = 0 ∧ k = 38)) → (zs (zs M4 27 d r) 0 38 (nI (d + 1))) c k = (zs M2 0 30 (nI (s + 1))) c k := fun c k c1 c2 => (hq5 c k c2).trans (r3 c k c1)
        refine ⟨_, rfl, fq_tr hf2 (fun c k hc => (G c k (by omega) (by omega)).trans (hq3 c k (by omega))), ⟨(G _ _ (by omega) (by omega)).trans ((hq3 _ _ (by omega)).trans t2.1), fun i b hi => (G _ _ (by omega) (by omega)).trans ((hq3 _ _ (by omega)).trans (t2.2.1 i b hi)), (G _ _ (by omega) (by omega)).trans zs_eq⟩, (G _ _ (by omega) (by omega)).trans ((hq3 _ _ (by omega)).trans t3), (G _ _ (by omega) (by omega)).trans ((hq3 _ _ (by omega)).trans t4), zs_eq, fun a2 b2 ha2 hb2 => ?_⟩
        rw [ha] at ha2
        rw [hb] at hb2
        rw [zs_ne (by omega), zs_eq, ← Option.some.inj ha2, ← Option.some.inj hb2]
        exact r2
end qyS
