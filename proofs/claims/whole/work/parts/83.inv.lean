/-! PURE: the relation of both memories -/
def gLen (n : Nat) (E : List (Nat × Nat)) (a b : Nat) : Option Nat := if tR (gTree n E) a = tR (gTree n E) b then some (popc (tA (gTree n E) a ^^^ tA (gTree n E) b)) else none
noncomputable def gDst (n : Nat) (E : List (Nat × Nat)) (a b : Nat) : Nat := (farO (psF n E n a) (psF n E n b)).getD 0
abbrev sT : Type := Nat × Nat × Option Nat × Option Nat
noncomputable def stO (n : Nat) (E : List (Nat × Nat)) (a b : Nat) (s : sT) : sT := if a = b then s else match gLen n E a b with
  | none => s
  | some L => if s.1 * gDst n E a b < L * s.2.1 then (L, gDst n E a b, some a, some b) else s
noncomputable def stI (n : Nat) (E : List (Nat × Nat)) (a : Nat) : List Nat → sT → sT
  | [], s => s
  | b :: l, s => stI n E a l (stO n E a b s)
noncomputable def stA (n : Nat) (E : List (Nat × Nat)) : List Nat → sT → sT
  | [], s => s
  | a :: l, s => stA n E l (stI n E a (List.range' 0 n) s)
noncomputable def gSt (n : Nat) (E : List (Nat × Nat)) : sT := stA n E (List.range' 0 n) (0, 1, none, none)
noncomputable def gStr (n : Nat) (E : List (Nat × Nat)) : sT := ((gSt n E).1 / Nat.gcd (gSt n E).1 (gSt n E).2.1, (gSt n E).2.1 / Nat.gcd (gSt n E).1 (gSt n E).2.1, (gSt n E).2.2.1, (gSt n E).2.2.2)
def PX (M : zM) (n : Nat) (E : List (Nat × Nat)) : Prop := M 48 7 = M 1 2 → M 48 3 = nI (gStr n E).1 ∧ M 48 4 = nI (gStr n E).2.1 ∧ M 48 5 = oI (gStr n E).2.2.1 ∧ M 48 6 = oI (gStr n E).2.2.2
def scX (M : zM) (tx : List Nat) (an : List Int32) (pl : Int32) : Prop := M 56 2 = nI tx.length ∧ (∀ i b : Nat, tx[i]? = some b → M 57 i = zi2b (nI b)) ∧ M 56 3 = pl ∧ M 56 11 = nI an.length ∧ ∀ (i : Nat) (r : Int32), an[i]? = some r → M 62 i = r
def scY (M : zM) (tx : List Nat) (an : List Int32) (pl : Int32) : Prop := M 0 29 = nI tx.length ∧ (∀ i b : Nat, tx[i]? = some b → M 25 i = nI b) ∧ M 0 32 = pl ∧ M 0 35 = nI an.length ∧ ∀ (i : Nat) (r : Int32), an[i]? = some r → M 26 i = r
def scOk (tx : List Nat) (an : List Int32) : Prop := tx.length ≤ 200 ∧ (∀ b ∈ tx, b < 256) ∧ an.length ≤ 12
def InvX (M : zM) (n : Nat) (E : List (Nat × Nat)) (B : bkT) (tx : List Nat) (an : List Int32) (pl : Int32) (c : Nat) : Prop := NetX M n E ∧ CX M n E ∧ KX M ∧ M 1 2 = nI c ∧ PX M n E ∧ tk (M 48 7) c ∧ BX M B ∧ scX M tx an pl
def InvY (M : zM) (n : Nat) (E : List (Nat × Nat)) (B : bkT) (tx : List Nat) (an : List Int32) (pl : Int32) : Prop := NetY M n E ∧ BY M B ∧ scY M tx an pl
def RlW (Mx My : zM) (t n : Nat) (E : List (Nat × Nat)) (B : bkT) (tx : List Nat) (an : List Int32) (pl : Int32) (c : Nat) : Prop := gW n E ∧ c ≤ t ∧ bkOk B ∧ scOk tx an ∧ InvX Mx n E B tx an pl c ∧ InvY My n E B tx an pl
def Rl (Mx My : zM) (t : Nat) : Prop := ∃ n E B tx an pl c, RlW Mx My t n E B tx an pl c
theorem Rl_mono (Mx My : zM) (t : Nat) (h : Rl Mx My t) : Rl Mx My (t + 1) := by
  obtain ⟨n, E, B, tx, an, pl, c, h1, h2, h3⟩ := h
  exact ⟨n, E, B, tx, an, pl, c, h1, by omega, h3⟩
theorem BX_fq {M M2 : zM} {B : bkT} {P : Nat → Nat → Prop} (h : BX M B) (hf : fq P M M2) (h1 : ∀ c k, 33 ≤ c → c < 48 → ¬ P c k) : BX M2 B := fun kd hk => by
  have h2 := h kd hk
  refine ⟨(hf _ _ (h1 _ _ (by omega) (by omega))).trans h2.1, (hf _ _ (h1 _ _ (by omega) (by omega))).trans h2.2.1, (hf _ _ (h1 _ _ (by omega) (by omega))).trans h2.2.2.1, h2.2.2.2.1.fq hf (fun k => ⟨h1 _ _ (by omega) (by omega), h1 _ _ (by omega) (by omega), h1 _ _ (by omega) (by omega)⟩), fun q hq => (hf _ _ (h1 _ _ (by omega) (by omega))).trans (h2.2.2.2.2 q hq)⟩
theorem BY_fq {M M2 : zM} {B : bkT} {P : Nat → Nat → Prop} (h : BY M B) (hf : fq P M M2) (h1 : ∀ c k, 17 ≤ c → c < 22 → ¬ P c k) : BY M2 B := fun kd hk => by
  have h2 := h kd hk
  exact ⟨(hf _ _ (h1 _ _ (by omega) (by omega))).trans h2.1, (hf _ _ (h1 _ _ (by omega) (by omega))).trans h2.2.1, fun q hq => ⟨⟨(hf _ _ (h1 _ _ (by omega) (by omega))).trans (h2.2.2 q hq).1.1, fun j x hj => (hf _ _ (h1 _ _ (by omega) (by omega))).trans ((h2.2.2 q hq).1.2 j x hj)⟩, (hf _ _ (h1 _ _ (by omega) (by omega))).trans (h2.2.2 q hq).2⟩⟩
theorem scX_fq {M M2 : zM} {tx : List Nat} {an : List Int32} {pl : Int32} {P : Nat → Nat → Prop} (h : scX M tx an pl) (hf : fq P M M2) (h1 : ∀ k, ¬ P 56 2 ∧ ¬ P 56 3 ∧ ¬ P 56 11 ∧ ¬ P 57 k ∧ ¬ P 62 k) : scX M2 tx an pl :=
  ⟨(hf _ _ (h1 0).1).trans h.1, fun i b hi => (hf _ _ (h1 i).2.2.2.1).trans (h.2.1 i b hi), (hf _ _ (h1 0).2.1).trans h.2.2.1, (hf _ _ (h1 0).2.2.1).trans h.2.2.2.1, fun i r hi => (hf _ _ (h1 i).2.2.2.2).trans (h.2.2.2.2 i r hi)⟩
theorem scY_fq {M M2 : zM} {tx : List Nat} {an : List Int32} {pl : Int32} {P : Nat → Nat → Prop} (h : scY M tx an pl) (hf : fq P M M2) (h1 : ∀ k, ¬ P 0 29 ∧ ¬ P 0 32 ∧ ¬ P 0 35 ∧ ¬ P 25 k ∧ ¬ P 26 k) : scY M2 tx an pl :=
  ⟨(hf _ _ (h1 0).1).trans h.1, fun i b hi => (hf _ _ (h1 i).2.2.2.1).trans (h.2.1 i b hi), (hf _ _ (h1 0).2.1).trans h.2.2.1, (hf _ _ (h1 0).2.2.1).trans h.2.2.2.1, fun i r hi => (hf _ _ (h1 i).2.2.2.2).trans (h.2.2.2.2 i r hi)⟩
abbrev zRd : Nat → Nat → Prop := fun c k => zL c k ∨ (49 ≤ c ∧ c < 56)
theorem PX_fq {M M2 : zM} {n : Nat} {E : List (Nat × Nat)} {P : Nat → Nat → Prop} (h : PX M n E) (hf : fq P M M2) (h1 : ¬ P 1 2) (h2 : ∀ k, ¬ P 48 k) : PX M2 n E := fun z => by
  rw [hf _ _ (h2 7), hf _ _ h1] at z
  have := h z
  rw [hf _ _ (h2 3), hf _ _ (h2 4), hf _ _ (h2 5), hf _ _ (h2 6)]
  exact this
section rlS
variable {Mx My Mx2 My2 : zM} {t n : Nat} {E : List (Nat × Nat)} {B : bkT} {tx : List Nat} {an : List Int32} {pl : Int32} {c : Nat}
theorem InvX_rd (h : InvX Mx n E B tx an pl c) (hf : fq zRd Mx Mx2) (hC : CX Mx2 n E) : InvX Mx2 n E B tx an pl c := by
  obtain ⟨h1, h2, h3, h4, h5, h6, h7, h8⟩ := h
  exact ⟨fq_net hf h1 (fun k => by omega), hC, h3.fq hf (fun c k _ _ => by omega), (hf 1 2 (by omega)).trans h4, PX_fq h5 hf (by omega) (fun k => by omega), by rw [hf 48 7 (by omega)]; exact h6, BX_fq h7 hf (fun c k _ _ => by omega), scX_fq h8 hf (fun k => by omega)⟩
theorem InvY_rd (h : InvY My n E B tx an pl) (hf : fq zY My My2) : InvY My2 n E B tx an pl :=
  ⟨fq_netY hf h.1 (fun k => by omega), BY_fq h.2.1 hf (fun c k _ _ => by omega), scY_fq h.2.2 hf (fun k => by omega)⟩
theorem Rl_rd (h : RlW Mx My t n E B tx an pl c) (hf : fq zRd Mx Mx2) (hC : CX Mx2 n E) (hg : fq zY My My2) : Rl Mx2 My2 (t + 1) := by
  obtain ⟨h1, h2, h3, h4, h5, h6⟩ := h
  exact ⟨n, E, B, tx, an, pl, c, h1, by omega, h3, h4, InvX_rd h5 hf hC, InvY_rd h6 hg⟩
theorem Rl_same (h : RlW Mx My t n E B tx an pl c) : Rl Mx My (t + 1) := Rl_rd h fq_rf h.2.2.2.2.1.2.1 fq_rf
theorem Rl_Y (h : RlW Mx My t n E B tx an pl c) (hg : fq zY My My2) : Rl Mx My2 (t + 1) := Rl_rd h fq_rf h.2.2.2.2.1.2.1 hg
end rlS
theorem st_fault : zStep Rl (fun M => fNN_fault M) (fun M => fMd_fault M) := by
  rintro Mx My t ht ⟨n, E, B, tx, an, pl, c, h⟩
  refine ⟨pl, Mx, My, ?_, ?_, Rl_same h⟩
  · show some (Mx 56 3, Mx) = _
    rw [h.2.2.2.2.1.2.2.2.2.2.2.2.2.2.1]
  · show some (My 0 32, My) = _
    rw [h.2.2.2.2.2.2.2.2.2.1]
theorem st_said (a0 : Int32) : zStep Rl (fun M => fNN_said a0 M) (fun M => fMd_said a0 M) := by
  rintro Mx My t ht ⟨n, E, B, tx, an, pl, c, h⟩
  have hx := h.2.2.2.2.1.2.2.2.2.2.2.2
  have hy := h.2.2.2.2.2.2.2
  have hl := h.2.2.2.1.2.2
  have ez := zin_lt (v := a0) (n := an.length) (by omega)
  by_cases hz : zin a0 an.length = true
  · obtain ⟨j, hj, rfl⟩ := zin_ex hz (by omega)
    obtain ⟨r, hr⟩ : ∃ r, an[j]? = some r := ⟨_, List.getElem?_eq_getElem hj⟩
    refine ⟨r, Mx, My, ?_, ?_, Rl_same h⟩
    · show fNN_said (nI j) Mx = _
      rw [fNN_said, if_neg (nI_nlt0 (by omega)), hx.2.2.2.1, if_pos (nI_lt hj (by omega)), rd_ok (show j < 12 by omega) (by decide), hx.2.2.2.2 j r hr]
    · show fMd_said (nI j) My = _
      rw [fMd_said, hy.2.2.2.1, show (0 : Int64) = (0 : Int32).toInt64 from rfl, in_I, cl_some, zin_sub (by omega), hz, if_neg (by decide), rd_ok (show j < 12 by omega) (by decide), hy.2.2.2.2 j r hr]
  · refine ⟨-1001, Mx, My, ?_, ?_, Rl_same h⟩
    · show fNN_said a0 Mx = _
      rw [fNN_said, hx.2.2.2.1]
      by_cases h0 : a0 < 0
      · rw [if_pos h0]
      · rw [if_neg h0, if_neg]
        intro z
        have : ¬ nI an.length ≤ a0 := (fa_of_lt z).2.1
        rw [ez] at hz
        simp [h0, this] at hz
    · show fMd_said a0 My = _
      rw [fMd_said, hy.2.2.2.1, show (0 : Int64) = (0 : Int32).toInt64 from rfl, in_I, cl_some, zin_sub (by omega), Bool.eq_false_iff.mpr hz, bI_f, if_pos rfl]
