/-! PURE: what the class keeps, and whether it still holds -/
def LXk (M : zM) (n : Nat) (E : List (Nat × Nat)) (kd : Nat) : Prop := NmX M (23 + 3 * kd) (wK kd) (nmK n E kd) ∧ M (23 + 3 * kd) 2 = nI n ∧ (kd = 1 → selX M 17 18 (gSJ n E)) ∧ (kd = 2 → selX M 19 20 (gSF n E))
def tk (x : Int32) (c : Nat) : Prop := x = -1 ∨ ∃ k : Nat, k ≤ c ∧ x = nI k
theorem tk_now (c : Nat) : tk (nI c) c := Or.inr ⟨c, Nat.le_refl _, rfl⟩
def TK (M : zM) : Prop := ∃ c : Nat, M 1 2 = nI c ∧ c ≤ 1000 ∧ tk (M 5 13) c ∧ ∀ kd, kd < 3 → tk (M 16 kd) c
def CX (M : zM) (n : Nat) (E : List (Nat × Nat)) : Prop := (M 5 13 = M 1 2 → TX M n E) ∧ (∀ kd, kd < 3 → M 16 kd = M 1 2 → LXk M n E kd) ∧ TK M
theorem TK.fq {M M2 : zM} {P : Nat → Nat → Prop} (h : TK M) (hf : fq P M M2) (h1 : ¬ P 5 13 ∧ ¬ P 16 0 ∧ ¬ P 16 1 ∧ ¬ P 16 2) (h2 : ¬ P 1 2) : TK M2 := by
  obtain ⟨c, a1, a2, a3, a4⟩ := h
  refine ⟨c, (hf 1 2 h2).trans a1, a2, by rw [hf 5 13 h1.1]; exact a3, fun kd hk => ?_⟩
  obtain h0 | h0 | h0 : kd = 0 ∨ kd = 1 ∨ kd = 2 := by omega
  · rw [h0, hf 16 0 h1.2.1]; exact a4 0 (by omega)
  · rw [h0, hf 16 1 h1.2.2.1]; exact a4 1 (by omega)
  · rw [h0, hf 16 2 h1.2.2.2]; exact a4 2 (by omega)
theorem TK.set {M : zM} (h : TK M) (kd : Nat) : TK (zs M 16 kd (M 1 2)) := by
  obtain ⟨c, a1, a2, a3, a4⟩ := h
  refine ⟨c, by rw [zs_nc (by decide)]; exact a1, a2, by rw [zs_nc (by decide)]; exact a3, fun k2 hk => ?_⟩
  by_cases h0 : k2 = kd
  · rw [h0, zs_eq, a1]
    exact tk_now c
  · rw [zs_nk h0]
    exact a4 k2 hk
theorem TKtree {M M2 : zM} {P : Nat → Nat → Prop} (h : TK M) (hf : fq P M M2) (h1 : ¬ P 16 0 ∧ ¬ P 16 1 ∧ ¬ P 16 2) (h2 : ¬ P 1 2) (h3 : M2 5 13 = M 1 2) : TK M2 := by
  obtain ⟨c, a1, a2, a3, a4⟩ := h
  refine ⟨c, (hf 1 2 h2).trans a1, a2, by rw [h3, a1]; exact tk_now c, fun kd hk => ?_⟩
  obtain h0 | h0 | h0 : kd = 0 ∨ kd = 1 ∨ kd = 2 := by omega
  · rw [h0, hf 16 0 h1.1]; exact a4 0 (by omega)
  · rw [h0, hf 16 1 h1.2.1]; exact a4 1 (by omega)
  · rw [h0, hf 16 2 h1.2.2]; exact a4 2 (by omega)
def KX (M : zM) : Prop := ∀ kd, kd < 3 → M (23 + 3 * kd) 0 = nI kd ∧ M (23 + 3 * kd) 1 = nI (wK kd)
abbrev zL : Nat → Nat → Prop := fun c k => 5 ≤ c ∧ c < 32 ∧ ¬ ((c = 23 ∨ c = 26 ∨ c = 29) ∧ k < 2)
theorem TX.fq {M M2 : zM} {n : Nat} {E : List (Nat × Nat)} {P : Nat → Nat → Prop} (h : TX M n E) (hf : fq P M M2) (h1 : ∀ c k, 5 ≤ c → c < 14 → ¬ P c k) : TX M2 n E :=
  h.kept ⟨hf 5 1 (h1 _ _ (by omega) (by omega)), hf 5 2 (h1 _ _ (by omega) (by omega)), hf 5 10 (h1 _ _ (by omega) (by omega)), hf 5 11 (h1 _ _ (by omega) (by omega))⟩
    ⟨funext fun k => hf 6 k (h1 _ _ (by omega) (by omega)), funext fun k => hf 7 k (h1 _ _ (by omega) (by omega)), funext fun k => hf 8 k (h1 _ _ (by omega) (by omega)), funext fun k => hf 12 k (h1 _ _ (by omega) (by omega))⟩
    ⟨funext fun k => hf 9 k (h1 _ _ (by omega) (by omega)), funext fun k => hf 10 k (h1 _ _ (by omega) (by omega)), funext fun k => hf 11 k (h1 _ _ (by omega) (by omega))⟩
theorem LXk.fq {M M2 : zM} {n : Nat} {E : List (Nat × Nat)} {kd : Nat} {P : Nat → Nat → Prop} (h : LXk M n E kd) (hf : fq P M M2) (h1 : ∀ k, ¬ P (23 + 3 * kd) 1 ∧ ¬ P (23 + 3 * kd) 2 ∧ ¬ P (24 + 3 * kd) k ∧ ¬ P (25 + 3 * kd) k ∧ (kd = 1 → ¬ P 17 k ∧ ¬ P 18 k) ∧ (kd = 2 → ¬ P 19 k ∧ ¬ P 20 k)) : LXk M2 n E kd :=
  ⟨h.1.fq hf (fun k => ⟨(h1 k).1, by rw [show 23 + 3 * kd + 1 = 24 + 3 * kd by omega]; exact (h1 k).2.2.1, by rw [show 23 + 3 * kd + 2 = 25 + 3 * kd by omega]; exact (h1 k).2.2.2.1⟩), (hf _ _ (h1 0).2.1).trans h.2.1, fun z => (h.2.2.1 z).fq hf (fun k => (h1 k).2.2.2.2.1 z), fun z => (h.2.2.2 z).fq hf (fun k => (h1 k).2.2.2.2.2 z)⟩
theorem CX.fq {M M2 : zM} {n : Nat} {E : List (Nat × Nat)} {P : Nat → Nat → Prop} (h : CX M n E) (hf : fq P M M2) (h1 : ∀ c k, 5 ≤ c → c < 32 → ¬ P c k) (h2 : ¬ P 1 2) : CX M2 n E := by
  refine ⟨fun z => ?_, fun kd hk z => ?_, h.2.2.fq hf ⟨h1 _ _ (by omega) (by omega), h1 _ _ (by omega) (by omega), h1 _ _ (by omega) (by omega), h1 _ _ (by omega) (by omega)⟩ h2⟩
  · rw [hf 5 13 (h1 _ _ (by omega) (by omega)), hf 1 2 h2] at z
    exact (h.1 z).fq hf (fun c k a b => h1 c k a (by omega))
  · rw [hf 16 kd (h1 _ _ (by omega) (by omega)), hf 1 2 h2] at z
    exact (h.2.1 kd hk z).fq hf (fun k => ⟨h1 _ _ (by omega) (by omega), h1 _ _ (by omega) (by omega), h1 _ _ (by omega) (by omega), h1 _ _ (by omega) (by omega), fun _ => ⟨h1 _ _ (by omega) (by omega), h1 _ _ (by omega) (by omega)⟩, fun _ => ⟨h1 _ _ (by omega) (by omega), h1 _ _ (by omega) (by omega)⟩⟩)
theorem KX.fq {M M2 : zM} {P : Nat → Nat → Prop} (h : KX M) (hf : fq P M M2) (h1 : ∀ c k, (c = 23 ∨ c = 26 ∨ c = 29) → k < 2 → ¬ P c k) : KX M2 := fun kd hk => by
  rw [hf _ 0 (h1 _ _ (by omega) (by omega)), hf _ 1 (h1 _ _ (by omega) (by omega))]
  exact h kd hk
theorem fresh_q {n : Nat} {E : List (Nat × Nat)} (hW : gW n E) {M : zM} (hN : NetX M n E) (hC : CX M n E) :
    ∃ M2, fTree_fresh M = some (5, M2) ∧ TX M2 n E ∧ CX M2 n E ∧ NetX M2 n E ∧ fq (fun c _ => 5 ≤ c ∧ c < 14) M M2 := by
  obtain ⟨M2, a1, a2, a3, a4⟩ := fresh_ok hW hN hC.1
  have a5 : fq (fun c _ => 5 ≤ c ∧ c < 14) M M2 := fq_fr a4 (fun c k hc => by simp; omega)
  refine ⟨M2, a1, a2, ⟨fun _ => a2, fun kd hk z => ?_, TKtree hC.2.2 a5 (by omega) (by omega) a3⟩, fq_net a5 hN (fun k => by omega), a5⟩
  rw [a5 16 kd (by omega), a5 1 2 (by omega)] at z
  exact (hC.2.1 kd hk z).fq a5 (fun k => by omega)
theorem rr_row {α : Type} {kd : Nat} (hk : kd < 3) (K : Nat → Option α) : rr zRX 15 3 (nI kd) K = K (23 + 3 * kd) := by
  obtain h0 | h0 | h0 : kd = 0 ∨ kd = 1 ∨ kd = 2 := by omega
  · subst h0; rfl
  · subst h0; rfl
  · subst h0; rfl
theorem now_ok {n : Nat} {E : List (Nat × Nat)} (hW : gW n E) {M : zM} (hN : NetX M n E) (hC : CX M n E) (hK : KX M) {kd : Nat} (hk : kd < 3) :
    ∃ M2, fLabels_now (nI kd) M = some (23 + 3 * kd, M2) ∧ LXk M2 n E kd ∧ CX M2 n E ∧ KX M2 ∧ NetX M2 n E ∧ fq zL M M2 := by
  have hn := hW.1.2
  rw [fLabels_now, rr_row hk, rd_ok hk (by decide)]
  by_cases hcache : M 16 kd = M 1 2
  · rw [if_pos hcache]
    exact ⟨M, rfl, hC.2.1 kd hk hcache, hC, hK, hN, fq_rf⟩
  · rw [if_neg hcache, wr_ok hk (by decide)]
    have f1 : fq (fun c k => c = 16 ∧ k = kd) M (zs M 16 kd (M 1 2)) := fq_zs fq_rf ⟨rfl, rfl⟩
    obtain ⟨M2, b1, b2, b3, b4⟩ := nmBegin_ok (M := zs M 16 kd (M 1 2)) (c0 := 23 + 3 * kd) (w := wK kd) (zs M 16 kd (M 1 2) 1 0) (by rw [f1 _ _ (by omega)]; exact (hK kd hk).2)
    have b4 : fq (fun c k => c = 24 + 3 * kd ∨ (c = 23 + 3 * kd ∧ k = 2)) (zs M 16 kd (M 1 2)) M2 := fq_fr b4 (fun c k hc => by simp; omega)
    have f2 : fq (fun c k => c = 24 + 3 * kd ∨ (c = 23 + 3 * kd ∧ k = 2) ∨ (c = 16 ∧ k = kd)) M M2 := fq_tr (fq_mono f1 (fun c k h => by omega)) (fq_mono b4 (fun c k h => by omega))
    have hN2 := fq_net f2 hN (fun k => by omega)
    have hposts : M2 (23 + 3 * kd) 2 = nI n := by rw [b3, f1 1 0 (by omega)]; exact hN.1
    have hT2 : TK M2 := (hC.2.2.set kd).fq b4 (by omega) (by omega)
    have hC2 : (M2 5 13 = M2 1 2 → TX M2 n E) ∧ ∀ k2, k2 < 3 → ¬ k2 = kd → M2 16 k2 = M2 1 2 → LXk M2 n E k2 := by
      refine ⟨fun z => ?_, fun k2 hk2 hne z => ?_⟩
      · rw [f2 5 13 (by omega), f2 1 2 (by omega)] at z
        exact (hC.1 z).fq f2 (fun c k _ _ => by omega)
      · rw [f2 16 k2 (by omega), f2 1 2 (by omega)] at z
        exact (hC.2.1 k2 hk2 z).fq f2 (fun k => by omega)
    rw [b1, cl_some]
    obtain h0 | h0 | h0 : kd = 0 ∨ kd = 1 ∨ kd = 2 := by omega
    · subst h0
      obtain ⟨M3, M4, c1, c2, c3, c4, c5, c6⟩ := nameAbove_ok hW (c0 := 23) (w := 2) (by decide) (by decide) (by decide) rfl hN2 hC2.1 b2
      have f4 : fq (fun c _ => (5 ≤ c ∧ c < 14) ∨ c = 24 ∨ c = 25) M2 M4 := fq_tr (fq_fr c5 (fun c k hc => by simp; omega)) (fq_fr c6 (fun c k hc => by simp; omega))
      have hL : LXk M4 n E 0 := ⟨c2, by rw [f4 _ _ (by omega)]; exact hposts, fun z => (by cases z), fun z => (by cases z)⟩
      have f5 := fq_tr (fq_mono f2 (Q := zL) (fun c k h => by omega)) (fq_mono f4 (fun c k h => by omega))
      refine ⟨M4, ?_, hL, ⟨fun _ => c3, fun k2 hk2 z => ?_, TKtree hT2 f4 (by omega) (by omega) c4⟩, hK.fq f5 (fun c k h1 h2 => by omega), fq_net f5 hN (fun k => by omega), f5⟩
      · rw [if_neg (not_not_intro (by decide))]
        show cl (fLabels_nameAbove 23 M2) _ = _
        rw [c1, cl_some]
      · by_cases h20 : k2 = 0
        · rw [h20]
          exact hL
        · rw [f4 16 k2 (by omega), f4 1 2 (by omega)] at z
          exact (hC2.2 k2 hk2 h20 z).fq f4 (fun k => by omega)
    · subst h0
      obtain ⟨M4, c1, c2, c3, c4⟩ := nameJoined_ok hW (c0 := 26) (by decide) rfl hN2 b2
      have hL : LXk M4 n E 1 := ⟨c2, by rw [c4 _ _ (by omega)]; exact hposts, fun _ => c3, fun z => (by cases z)⟩
      have f5 := fq_tr (fq_mono f2 (Q := zL) (fun c k h => by omega)) (fq_mono c4 (fun c k h => by omega))
      refine ⟨M4, ?_, hL, ⟨fun z => ?_, fun k2 hk2 z => ?_, hT2.fq c4 (by omega) (by omega)⟩, hK.fq f5 (fun c k h1 h2 => by omega), fq_net f5 hN (fun k => by omega), f5⟩
      · rw [if_pos (by decide), if_neg (not_not_intro (by decide))]
        show cl (fLabels_nameJoined 26 M2) _ = _
        rw [c1, cl_some]
      · rw [c4 5 13 (by omega), c4 1 2 (by omega)] at z
        exact (hC2.1 z).fq c4 (fun c k _ _ => by omega)
      · by_cases h20 : k2 = 1
        · rw [h20]
          exact hL
        · rw [c4 16 k2 (by omega), c4 1 2 (by omega)] at z
          exact (hC2.2 k2 hk2 h20 z).fq c4 (fun k => by omega)
    · subst h0
      obtain ⟨M4, c1, c2, c3, c4⟩ := nameFar_ok hW (c0 := 29) (by decide) rfl hN2 b2
      have hL : LXk M4 n E 2 := ⟨c2, by rw [c4 _ _ (by omega)]; exact hposts, fun z => (by cases z), fun _ => c3⟩
      have f5 := fq_tr (fq_mono f2 (Q := zL) (fun c k h => by omega)) (fq_mono c4 (fun c k h => by omega))
      refine ⟨M4, ?_, hL, ⟨fun z => ?_, fun k2 hk2 z => ?_, hT2.fq c4 (by omega) (by omega)⟩, hK.fq f5 (fun c k h1 h2 => by omega), fq_net f5 hN (fun k => by omega), f5⟩
      · rw [if_pos (by decide), if_pos (by decide)]
        show cl (fLabels_nameFar 29 M2) _ = _
        rw [c1, cl_some]
      · rw [c4 5 13 (by omega), c4 1 2 (by omega)] at z
        exact (hC2.1 z).fq c4 (fun c k _ _ => by omega)
      · by_cases h20 : k2 = 2
        · rw [h20]
          exact hL
        · rw [c4 16 k2 (by omega), c4 1 2 (by omega)] at z
          exact (hC2.2 k2 hk2 h20 z).fq c4 (fun k => by omega)
