/-! PURE: small nets in small nets -/
def fitP (h g : Nat) (P : List Nat) (p : Nat) : Prop := ∀ i s : Nat, P[i]? = some s → ¬ s = p ∧ h.testBit (pix s p) = g.testBit (pix i P.length)
def gd (m h g : Nat) (P : List Nat) : Prop := (∀ x ∈ P, x < m) ∧ ∀ i j s t : Nat, i < j → P[i]? = some s → P[j]? = some t → ¬ s = t ∧ h.testBit (pix s t) = g.testBit (pix i j)
theorem gd_nil (m h g : Nat) : gd m h g [] := ⟨fun x hx => (by cases hx), fun i j s t _ hi => (by cases hi)⟩
theorem gd_add {m h g : Nat} {P : List Nat} {p : Nat} : gd m h g (P ++ [p]) ↔ gd m h g P ∧ p < m ∧ fitP h g P p := by
  constructor
  · rintro ⟨h1, h2⟩
    refine ⟨⟨fun x hx => h1 x (mem_app1.mpr (Or.inl hx)), fun i j s t hij hi hj => h2 i j s t hij (app_left hi) (app_left hj)⟩, h1 p (mem_app1.mpr (Or.inr rfl)), fun i s hi => ?_⟩
    have hl := (List.getElem?_eq_some_iff.mp hi).1
    exact h2 i P.length s p hl (app_left hi) (by rw [List.getElem?_append_right (Nat.le_refl _), Nat.sub_self]; rfl)
  · rintro ⟨⟨h1, h2⟩, h3, h4⟩
    refine ⟨fun x hx => ?_, fun i j s t hij hi hj => ?_⟩
    · rcases mem_app1.mp hx with z | z
      · exact h1 x z
      · rw [z]
        exact h3
    · rcases app_get hj with ⟨a1, a2⟩ | ⟨a1, a2⟩
      · rcases app_get hi with ⟨b1, b2⟩ | ⟨b1, b2⟩
        · exact h2 i j s t hij b2 a2
        · omega
      · rcases app_get hi with ⟨b1, b2⟩ | ⟨b1, b2⟩
        · rw [a1, a2]
          exact h4 i s b2
        · omega
theorem gd_pre {m h g : Nat} : ∀ {Q P : List Nat}, gd m h g (P ++ Q) → gd m h g P := by
  intro Q
  induction Q with
  | nil =>
    intro P hg
    rw [List.append_nil] at hg
    exact hg
  | cons q Q ih =>
    intro P hg
    rw [show P ++ q :: Q = (P ++ [q]) ++ Q by simp] at hg
    exact (gd_add.mp (ih hg)).1
def prX (M : zM) (c : Nat) (P : List Nat) : Prop := ∀ i s : Nat, P[i]? = some s → M c i = nI s
theorem fits_ok {M : zM} {m h g p : Nat} {P : List Nat} (hm : m ≤ 5) (hh : h < 2 ^ 10) (hg : g < 2 ^ 10) (hP : ∀ x ∈ P, x < m) (hp : p < m) (hl : P.length < 5) (hM : prX M 54 P) (hM2 : M 54 P.length = nI p) :
    ∃ b : Bool, fSmallNets_fits (nI h) (nI g) (nI P.length) M = some (bI b, M) ∧ (b = true ↔ fitP h g P p) := by
  rw [fSmallNets_fits]
  refine lpE (f := fun fu k (_ : Unit) M => fSmallNets_fits_3 fu (nI h) (nI g) (nI P.length) (nI k) M) (n := P.length)
    (I := fun k _ M' => M' = M ∧ ∀ i s : Nat, i < k → P[i]? = some s → ¬ s = p ∧ h.testBit (pix s p) = g.testBit (pix i P.length))
    (R := fun o => ∃ b : Bool, o = some (bI b, M) ∧ (b = true ↔ fitP h g P p)) ?_ ?_ 0 FU () M (by omega) (fu_ok (by omega)) ⟨rfl, fun i s z => by omega⟩
  · rintro fu - M' ⟨rfl, h1⟩
    refine ⟨true, ?_, fun _ i s hi => h1 i s (List.getElem?_eq_some_iff.mp hi).1 hi, fun _ => rfl⟩
    rw [fSmallNets_fits_3, if_pos (nI_le (by omega) (by omega)), zbl_1]
    rfl
  · rintro fu k - M' hk ⟨rfl, h1⟩
    obtain ⟨s, hs⟩ : ∃ s, P[k]? = some s := ⟨_, List.getElem?_eq_getElem hk⟩
    have hsm := hP s (List.mem_of_getElem? hs)
    rw [fSmallNets_fits_3, if_neg (nI_ge hk (by omega)), rd_ok (show k < 5 by omega) (by decide), rd_ok hl (by decide), hM k s hs, hM2]
    by_cases hsp : s = p
    · left
      refine ⟨false, ?_, fun z => (by cases z), fun z => absurd hsp (z k s hs).1⟩
      rw [if_neg (by rw [hsp]; exact not_not_intro rfl), zbl_0]
      rfl
    · have e43 : ∀ b : Bool, fSmallNets_fits_43 (fSmallNets_fits_3 fu) (nI h) (nI g) (nI P.length) (nI k) (bI b) M' = if b = h.testBit (pix s p) then fSmallNets_fits_3 fu (nI h) (nI g) (nI P.length) (nI (k + 1)) M' else some (0, M') := fun b => by
        have hpx := pix_lt (show s < 5 by omega) (show p < 5 by omega) hsp
        have e73 : ∀ d : Bool, fSmallNets_fits_73 (fSmallNets_fits_3 fu) (nI h) (nI g) (nI P.length) (nI k) (bI d) (bI b) M' = if b = d then fSmallNets_fits_3 fu (nI h) (nI g) (nI P.length) (nI (k + 1)) M' else some (0, M') := fun d => by
          rw [fSmallNets_fits_73, nI_1, zbl_0]
          cases b <;> cases d <;> simp [bI]
        have e1 := e73 true
        have e0 := e73 false
        rw [bI_t] at e1
        rw [bI_f] at e0
        rw [fSmallNets_fits_43, rd_ok (show k < 5 by omega) (by decide), rd_ok hl (by decide), hM k s hs, hM2, pairBit_X (by omega) (by omega) hsp, cl_some, e1, e0]
        cases ht : h.testBit (pix s p) with
        | false => rw [if_pos ((fa_bit (by omega)).mpr ht)]
        | true => rw [if_neg (fun z => by rw [(fa_bit (by omega)).mp z] at ht; cases ht)]
      have hkx := pix_lt (show k < 5 by omega) hl (by omega)
      have e1 := e43 true
      have e0 := e43 false
      rw [bI_t] at e1
      rw [bI_f] at e0
      rw [if_pos (fun z => hsp ((nI_eq (by omega) (by omega)).mp z)), pairBit_X (by omega) hl (by omega), cl_some, e1, e0]
      have key : (if nI g &&& nI (2 ^ pix k P.length) = 0 then (if false = h.testBit (pix s p) then fSmallNets_fits_3 fu (nI h) (nI g) (nI P.length) (nI (k + 1)) M' else some (0, M')) else (if true = h.testBit (pix s p) then fSmallNets_fits_3 fu (nI h) (nI g) (nI P.length) (nI (k + 1)) M' else some (0, M'))) = if h.testBit (pix s p) = g.testBit (pix k P.length) then fSmallNets_fits_3 fu (nI h) (nI g) (nI P.length) (nI (k + 1)) M' else some (0, M') := by
        cases hgt : g.testBit (pix k P.length) with
        | false =>
          rw [if_pos ((fa_bit (by omega)).mpr hgt)]
          cases h.testBit (pix s p) <;> simp
        | true =>
          rw [if_neg (fun z => by rw [(fa_bit (by omega)).mp z] at hgt; cases hgt)]
          cases h.testBit (pix s p) <;> simp
      rw [key]
      by_cases hb : h.testBit (pix s p) = g.testBit (pix k P.length)
      · right
        rw [if_pos hb]
        refine ⟨(), M', rfl, rfl, fun i s2 hi hs2 => ?_⟩
        by_cases hik : i = k
        · rw [hik, hs] at hs2
          cases Option.some.inj hs2
          rw [hik]
          exact ⟨hsp, hb⟩
        · exact h1 i s2 (by omega) hs2
      · left
        rw [if_neg hb]
        exact ⟨false, rfl, fun z => (by cases z), fun z => absurd (z k s hs).2 hb⟩
theorem seat_ok {m h k g : Nat} (hm : m ≤ 5) (hh : h < 2 ^ 10) (hg : g < 2 ^ 10) (hk : k ≤ 5) : ∀ (r d : Nat) (P : List Nat) (M : zM), k - P.length = r → P.length ≤ k → r < d → gd m h g P → prX M 54 P →
    ∃ (b : Bool) (M2 : zM), fSmallNets_seat d (nI m) (nI h) (nI k) (nI g) (nI P.length) M = some (bI b, M2) ∧ (b = true ↔ ∃ Q, Q.length = r ∧ gd m h g (P ++ Q)) ∧ fq (fun c i => c = 54 ∧ P.length ≤ i) M M2 := by
  intro r
  induction r with
  | zero =>
    intro d P M hr hl hd hP hM
    obtain ⟨d, rfl⟩ : ∃ k, d = k + 1 := ⟨d - 1, by omega⟩
    refine ⟨true, M, ?_, ⟨fun _ => ⟨[], rfl, by rw [List.append_nil]; exact hP⟩, fun _ => rfl⟩, fq_rf⟩
    rw [fSmallNets_seat, fSmallNets_seat_b, if_pos (nI_le (by omega) (by omega)), zbl_1]
    rfl
  | succ r ih =>
    intro d P M hr hl hd hP hM
    obtain ⟨d, rfl⟩ : ∃ k, d = k + 1 := ⟨d - 1, by omega⟩
    have hl5 : P.length < 5 := by omega
    rw [fSmallNets_seat, fSmallNets_seat_b, if_neg (nI_ge (by omega) (by omega)), if_pos (show nI P.length < 5 from nI_lt (b := 5) hl5 (by omega))]
    refine lpE (f := fun fu p (_ : Unit) M => fSmallNets_seat_17 (fSmallNets_seat d) fu (nI m) (nI h) (nI k) (nI g) (nI P.length) (nI p) M) (n := m)
      (I := fun p _ M' => fq (fun c i => c = 54 ∧ P.length ≤ i) M M' ∧ ∀ p2 Q, p2 < p → Q.length = r → ¬ gd m h g (P ++ p2 :: Q))
      (R := fun o => ∃ (b : Bool) (M2 : zM), o = some (bI b, M2) ∧ (b = true ↔ ∃ Q, Q.length = r + 1 ∧ gd m h g (P ++ Q)) ∧ fq (fun c i => c = 54 ∧ P.length ≤ i) M M2) ?_ ?_ 0 FU () M (by omega) (fu_ok (by omega)) ⟨fq_rf, fun p2 Q z => by omega⟩
    · rintro fu - M' ⟨h1, h2⟩
      refine ⟨false, M', ?_, ⟨fun z => (by cases z), ?_⟩, h1⟩
      · rw [fSmallNets_seat_17, if_pos (nI_le (by omega) (by omega)), zbl_0]
        rfl
      · rintro ⟨Q, q1, q2⟩
        cases Q with
        | nil => cases q1
        | cons p2 Q =>
          have hp2 : p2 < m := q2.1 p2 (List.mem_append_right _ List.mem_cons_self)
          exact absurd q2 (h2 p2 Q hp2 (by simpa using q1))
    · rintro fu p - M' hp ⟨h1, h2⟩
      have f1 : fq (fun c i => c = 54 ∧ P.length ≤ i) M (zs M' 54 P.length (nI p)) := fq_zs h1 ⟨rfl, Nat.le_refl _⟩
      have hM1 : prX (zs M' 54 P.length (nI p)) 54 P := fun i s hi => by
        have := (List.getElem?_eq_some_iff.mp hi).1
        rw [f1 54 i (by omega)]
        exact hM i s hi
      obtain ⟨b, c1, c2⟩ := fits_ok hm hh hg hP.1 hp hl5 hM1 zs_eq
      rw [fSmallNets_seat_17, if_neg (nI_ge hp (by omega)), wr_ok hl5 (by decide), c1, cl_some]
      cases b with
      | false =>
        right
        rw [bI_f, if_pos rfl, nI_1]
        refine ⟨(), _, rfl, f1, fun p2 Q hp2 hQ hgd => ?_⟩
        by_cases hpp : p2 = p
        · rw [hpp, show P ++ p :: Q = (P ++ [p]) ++ Q by simp] at hgd
          have := (gd_add.mp (gd_pre hgd)).2.2
          have := c2.mpr this
          cases this
        · exact h2 p2 Q (by omega) hQ hgd
      | true =>
        have hgP : gd m h g (P ++ [p]) := gd_add.mpr ⟨hP, hp, c2.mp rfl⟩
        have hlen : (P ++ [p]).length = P.length + 1 := by simp
        have hM3 : prX (zs M' 54 P.length (nI p)) 54 (P ++ [p]) := fun i s hi => by
          rcases app_get hi with ⟨a1, a2⟩ | ⟨a1, a2⟩
          · exact hM1 i s a2
          · rw [a1, a2, zs_eq]
        obtain ⟨b2, M3, d1, d2, d3⟩ := ih d (P ++ [p]) (zs M' 54 P.length (nI p)) (by omega) (by omega) (by omega) hgP hM3
        rw [hlen] at d1 d3
        have f3 : fq (fun c i => c = 54 ∧ P.length ≤ i) M M3 := fq_tr f1 (fq_mono d3 (fun c k h => by omega))
        rw [bI_t, if_neg (by decide), nI_1, nI_1, d1, cl_some]
        cases b2 with
        | false =>
          right
          rw [bI_f, if_pos rfl]
          refine ⟨(), M3, rfl, f3, fun p2 Q hp2 hQ hgd => ?_⟩
          by_cases hpp : p2 = p
          · rw [hpp, show P ++ p :: Q = (P ++ [p]) ++ Q by simp] at hgd
            have := d2.mpr ⟨Q, hQ, hgd⟩
            cases this
          · exact h2 p2 Q (by omega) hQ hgd
        | true =>
          left
          rw [bI_t, if_neg (by decide), zbl_1]
          obtain ⟨Q, q1, q2⟩ := d2.mp rfl
          exact ⟨true, M3, rfl, ⟨fun _ => ⟨p :: Q, by simp [q1], by rw [show P ++ p :: Q = (P ++ [p]) ++ Q by simp]; exact q2⟩, fun _ => rfl⟩, f3⟩
def hld (m h k g : Nat) : Prop := ∃ Q : List Nat, Q.length = k ∧ gd m h g Q
theorem contains_X {M : zM} {m h k g : Nat} (hm : m ≤ 5) (hh : h < 2 ^ 10) (hg : g < 2 ^ 10) (hk : k ≤ 5) : ∃ (b : Bool) (M2 : zM), fSmallNets_contains (nI m) (nI h) (nI k) (nI g) M = some (bI b, M2) ∧ (b = true ↔ hld m h k g) ∧ fq (fun c _ => c = 54) M M2 := by
  rw [fSmallNets_contains]
  by_cases hmk : m < k
  · refine ⟨false, M, ?_, ⟨fun z => (by cases z), ?_⟩, fq_rf⟩
    · rw [if_pos (nI_lt hmk (by omega)), zbl_0]
      rfl
    · rintro ⟨Q, q1, q2⟩
      have hnd : Q.Nodup := by
        rw [List.nodup_iff_pairwise_ne, List.pairwise_iff_getElem]
        intro i j hi hj hij
        exact (q2.2 i j _ _ hij (List.getElem?_eq_getElem hi) (List.getElem?_eq_getElem hj)).1
      have := nodup_len hnd q2.1
      omega
  · obtain ⟨b, M2, d1, d2, d3⟩ := seat_ok hm hh hg hk k 8 [] M (by simp) (by simp) (by omega) (gd_nil m h g) (fun i s hi => (by cases hi))
    refine ⟨b, M2, ?_, by rw [d2]; rfl, fq_mono d3 (fun c k h => h.1)⟩
    rw [if_neg (nI_nlt (by omega) (by omega))]
    have d1 : fSmallNets_seat 8 (nI m) (nI h) (nI k) (nI g) 0 M = some (bI b, M2) := d1
    rw [d1, cl_some, zbl_0, zbl_1]
    cases b <;> simp [bI]
/-! the reference tries all picks -/
theorem joined_Y {M : zM} {x a b : Nat} (hx : x < 2 ^ 10) (ha : a < 5) (hb : b < 5) (hab : ¬ a = b) : fMd_joined (nI x) (nI a) (nI b) M = some (bI (x.testBit (pix a b)), M) := by
  have hp := pix_lt ha hb hab
  have e21 : ∀ lo hi : Nat, 1 ≤ hi → hi < 5 → pj hi + lo < 10 → fMd_joined_21 (nI x) (nI lo) (nI hi) M = some (bI (x.testBit (pj hi + lo)), M) := fun lo hi h1 h2 h3 => by
    rw [fMd_joined_21, pairs_Y h1 (by omega), cl_some, nI_add, zbit (by omega) (by omega)]
  unfold pix at hp ⊢
  rw [fMd_joined]
  by_cases h1 : a < b
  · rw [if_pos h1, if_pos h1] at hp ⊢
    rw [if_neg (nI_ge h1 (by omega)), fMd_joined_10, if_neg (nI_ge h1 (by omega)), e21 a b (by omega) hb hp]
  · rw [if_neg h1, if_neg h1] at hp ⊢
    rw [if_pos (nI_le (by omega) (by omega)), fMd_joined_10, if_pos (nI_le (by omega) (by omega)), e21 b a (by omega) ha hp]
def digs (m : Nat) : Nat → Nat → List Nat
  | 0, _ => []
  | k + 1, x => x % m :: digs m k (x / m)
theorem digs_len {m : Nat} : ∀ k x, (digs m k x).length = k
  | 0, _ => rfl
  | k + 1, x => by rw [digs, List.length_cons, digs_len k]
theorem digs_all {m : Nat} (hm : 1 ≤ m) : ∀ (Q : List Nat), (∀ q ∈ Q, q < m) → ∃ x, x < m ^ Q.length ∧ digs m Q.length x = Q
  | [], _ => ⟨0, by simp, rfl⟩
  | q :: Q, h => by
    obtain ⟨x, h1, h2⟩ := digs_all hm Q (fun y hy => h y (List.mem_cons_of_mem _ hy))
    have hq := h q List.mem_cons_self
    refine ⟨q + m * x, ?_, ?_⟩
    · rw [List.length_cons, Nat.pow_succ, Nat.mul_comm (m ^ Q.length) m]
      have : m * x + m ≤ m * m ^ Q.length := by
        have := Nat.mul_le_mul_left m (show x + 1 ≤ m ^ Q.length from h1)
        rwa [Nat.mul_add, Nat.mul_one] at this
      omega
    · rw [List.length_cons, digs, Nat.add_mul_mod_self_left, Nat.mod_eq_of_lt hq, Nat.add_mul_div_left _ _ (by omega), Nat.div_eq_of_lt hq, Nat.zero_add, h2]
theorem zmod_ok {α : Type} {a d : Nat} {K : Int32 → Option α} (ha : a < 2 ^ 31) (h0 : 0 < d) (hd : d < 2 ^ 31) : zmod (nI a) (nI d) K = K (nI (a % d)) := by
  unfold zmod
  rw [if_neg (nI_ne0 h0 hd), pk_rem ha h0 hd]
theorem zdiv_ok {α : Type} {a d : Nat} {K : Int32 → Option α} (ha : a < 2 ^ 31) (h0 : 0 < d) (hd : d < 2 ^ 31) : zdiv (nI a) (nI d) K = K (nI (a / d)) := by
  unfold zdiv
  rw [if_neg (nI_ne0 h0 hd), pk_div ha h0 hd]
theorem pick_Y {M : zM} {m h k g x : Nat} (hm1 : 1 ≤ m) (hm : m ≤ 5) (hh : h < 2 ^ 10) (hg : g < 2 ^ 10) (hk : k ≤ 5) (hx : x < 5000) :
    ∃ (b : Bool) (M2 : zM), fMd_isPick (nI m) (nI h) (nI k) (nI g) (nI x) M = some (bI b, M2) ∧ (b = true ↔ gd m h g (digs m k x)) ∧ fq (fun c _ => c = 24) M M2 := by
  rw [fMd_isPick]
  refine lpE (f := fun fu i (s : Nat × Bool) M => fMd_isPick_10 fu (nI m) (nI h) (nI k) (nI g) (nI s.1) (bI s.2) (nI i) M) (n := k)
    (I := fun i s M' => s.1 < 5000 ∧ fq (fun c _ => c = 24) M M' ∧ ∃ P : List Nat, P.length = i ∧ P ++ digs m (k - i) s.1 = digs m k x ∧ (∀ y ∈ P, y < m) ∧ prX M' 24 P ∧ (s.2 = true ↔ gd m h g P))
    (R := fun o => ∃ (b : Bool) (M2 : zM), o = some (bI b, M2) ∧ (b = true ↔ gd m h g (digs m k x)) ∧ fq (fun c _ => c = 24) M M2) ?_ ?_ 0 FU (x, true) M (by omega) (fu_ok (by omega)) ⟨hx, fq_rf, [], rfl, rfl, fun y hy => (by cases hy), fun i s hi => (by cases hi), fun _ => gd_nil m h g, fun _ => rfl⟩
  · rintro fu ⟨v, b⟩ M' ⟨h1, h2, P, p1, p2, p3, p4, p5⟩
    rw [Nat.sub_self] at p2
    have p2 : P = digs m k x := by rw [← p2]; simp [digs]
    refine ⟨b, M', ?_, by rw [← p2]; exact p5, h2⟩
    rw [fMd_isPick_10, if_pos (nI_le (by omega) (by omega))]
    cases b <;> simp [bI, zbl_0, zbl_1]
  · rintro fu i ⟨v, b⟩ M' hi ⟨h1, h2, P, p1, p2, p3, p4, p5⟩
    right
    have h1 : v < 5000 := h1
    obtain ⟨r, hr⟩ : ∃ r, k - i = r + 1 := ⟨k - i - 1, by omega⟩
    rw [hr, digs] at p2
    have hvm : v % m < m := Nat.mod_lt _ (by omega)
    have f3 : fq (fun c _ => c = 24) M (zs M' 24 i (nI (v % m))) := fq_zs h2 rfl
    have hM3 : prX (zs M' 24 i (nI (v % m))) 24 P := fun j s hj => by
      have := (List.getElem?_eq_some_iff.mp hj).1
      rw [zs_nk (by omega)]
      exact p4 j s hj
    have inner : ∃ b2 : Bool, fMd_isPick_36 (fMd_isPick_10 fu) FU (nI m) (nI h) (nI k) (nI g) (nI (v / m)) (bI b) (nI i) 0 (zs M' 24 i (nI (v % m))) = fMd_isPick_10 fu (nI m) (nI h) (nI k) (nI g) (nI (v / m)) (bI b2) (nI (i + 1)) (zs M' 24 i (nI (v % m))) ∧ (b2 = true ↔ gd m h g (P ++ [v % m])) := by
      refine lpE (f := fun fu2 j (s : Bool) M => fMd_isPick_36 (fMd_isPick_10 fu) fu2 (nI m) (nI h) (nI k) (nI g) (nI (v / m)) (bI s) (nI i) (nI j) M) (n := i)
        (I := fun j s M2 => M2 = zs M' 24 i (nI (v % m)) ∧ (s = true ↔ gd m h g P ∧ ∀ a s2 : Nat, a < j → P[a]? = some s2 → ¬ s2 = v % m ∧ h.testBit (pix s2 (v % m)) = g.testBit (pix a P.length)))
        (R := fun o => ∃ b2 : Bool, o = fMd_isPick_10 fu (nI m) (nI h) (nI k) (nI g) (nI (v / m)) (bI b2) (nI (i + 1)) (zs M' 24 i (nI (v % m))) ∧ (b2 = true ↔ gd m h g (P ++ [v % m]))) ?_ ?_ 0 FU b _ (by omega) (fu_ok (by omega)) ⟨rfl, by
          rw [p5]
          exact ⟨fun z => ⟨z, fun a s2 z => by omega⟩, fun z => z.1⟩⟩
      · rintro fu2 s M2 ⟨rfl, g1⟩
        refine ⟨s, by rw [fMd_isPick_36, if_pos (nI_le (by omega) (by omega)), nI_1], ?_⟩
        rw [g1, gd_add]
        constructor
        · rintro ⟨z1, z2⟩
          exact ⟨z1, hvm, fun a s2 ha => z2 a s2 (by have := (List.getElem?_eq_some_iff.mp ha).1; omega) ha⟩
        · rintro ⟨z1, -, z2⟩
          exact ⟨z1, fun a s2 _ ha => z2 a s2 ha⟩
      · rintro fu2 j s M2 hj ⟨rfl, g1⟩
        cases s with
        | false =>
          left
          refine ⟨false, by rw [fMd_isPick_36, if_neg (nI_ge hj (by omega)), bI_f, if_pos rfl, nI_1], fun z => (by cases z), fun z => ?_⟩
          rw [gd_add] at z
          exact absurd (g1.mpr ⟨z.1, fun a s2 _ ha => z.2.2 a s2 ha⟩) (by decide)
        | true =>
          right
          have g1' := g1.mp rfl
          obtain ⟨s2, hs2⟩ : ∃ s2, P[j]? = some s2 := ⟨_, List.getElem?_eq_getElem (by omega)⟩
          have hs2m := p3 s2 (List.mem_of_getElem? hs2)
          have upd : ∀ b3 : Bool, (b3 = true ↔ (¬ s2 = v % m ∧ h.testBit (pix s2 (v % m)) = g.testBit (pix j P.length))) → (b3 = true ↔ gd m h g P ∧ ∀ a s3 : Nat, a < j + 1 → P[a]? = some s3 → ¬ s3 = v % m ∧ h.testBit (pix s3 (v % m)) = g.testBit (pix a P.length)) := fun b3 hb3 => by
            rw [hb3]
            constructor
            · intro z
              refine ⟨g1'.1, fun a s3 ha hs3 => ?_⟩
              by_cases haj : a = j
              · rw [haj, hs2] at hs3
                cases Option.some.inj hs3
                rw [haj]
                exact z
              · exact g1'.2 a s3 (by omega) hs3
            · intro z
              exact z.2 j s2 (by omega) hs2
          rw [fMd_isPick_36, if_neg (nI_ge hj (by omega)), bI_t, if_neg (by decide), rd_ok (show j < 5 by omega) (by decide), rd_ok (show i < 5 by omega) (by decide), rd_ok (show j < 5 by omega) (by decide), rd_ok (show i < 5 by omega) (by decide), hM3 j s2 hs2, zs_eq, nI_1]
          by_cases he : s2 = v % m
          · rw [if_pos (by rw [he])]
            exact ⟨false, _, rfl, rfl, upd false ⟨fun z => (by cases z), fun z => absurd he z.1⟩⟩
          · rw [if_neg (fun z => he ((nI_eq (by omega) (by omega)).mp z)), joined_Y hh (by omega) (by omega) he, cl_some, joined_Y hg (by omega) (by omega) (by omega), cl_some]
            by_cases hbt : h.testBit (pix s2 (v % m)) = g.testBit (pix j i)
            · rw [if_neg (by rw [hbt]; exact not_not_intro rfl)]
              exact ⟨true, _, rfl, rfl, upd true ⟨fun _ => ⟨he, by rw [p1]; exact hbt⟩, fun _ => rfl⟩⟩
            · rw [if_pos (fun z => hbt (by cases h1 : h.testBit (pix s2 (v % m)) <;> cases h2 : g.testBit (pix j i) <;> rw [h1, h2] at z <;> first | rfl | (exact absurd z (by decide))))]
              exact ⟨false, _, rfl, rfl, upd false ⟨fun z => (by cases z), fun z => absurd z.2 (by rw [p1]; exact hbt)⟩⟩
    obtain ⟨b2, i1, i2⟩ := inner
    have hvd : v / m ≤ v := Nat.div_le_self v m
    refine ⟨(v / m, b2), zs M' 24 i (nI (v % m)), ?_, (by show v / m < 5000; omega), f3, P ++ [v % m], by simp [p1], ?_, fun y hy => ?_, fun j s hj => ?_, i2⟩
    · show fMd_isPick_10 (fu + 1) (nI m) (nI h) (nI k) (nI g) (nI v) (bI b) (nI i) M' = _
      rw [fMd_isPick_10, if_neg (nI_ge hi (by omega))]
      rw [zmod_ok (by omega) (by omega) (by omega), wr_ok (show i < 5 by omega) (by decide), zdiv_ok (by omega) (by omega) (by omega), i1]
    · rw [show k - (i + 1) = r by omega, ← p2]
      simp
    · rcases mem_app1.mp hy with z | z
      · exact p3 y z
      · rw [z]
        exact hvm
    · rcases app_get hj with ⟨a1, a2⟩ | ⟨a1, a2⟩
      · exact hM3 j s a2
      · rw [a1, a2, p1, zs_eq]
theorem pow_le5 : ∀ m, m ≤ 5 → ∀ k, k ≤ 5 → m ^ k < 4000 := by decide
theorem holdsOne_Y {M : zM} {m h k g : Nat} (hm1 : 1 ≤ m) (hm : m ≤ 5) (hh : h < 2 ^ 10) (hg : g < 2 ^ 10) (hk : k ≤ 5) :
    ∃ (b : Bool) (M2 : zM), fMd_holdsOne (nI m) (nI h) (nI k) (nI g) M = some (bI b, M2) ∧ (b = true ↔ hld m h k g) ∧ fq (fun c _ => c = 24) M M2 := by
  have hpw := pow_le5 m hm k hk
  have e6 : fMd_holdsOne (nI m) (nI h) (nI k) (nI g) M = fMd_holdsOne_30 FU (nI m) (nI h) (nI k) (nI g) (nI (m ^ k)) 0 0 M := by
    rw [fMd_holdsOne]
    refine lpE (f := fun fu i (_ : Unit) M => fMd_holdsOne_6 fu (nI m) (nI h) (nI k) (nI g) (nI (m ^ i)) (nI i) M) (n := k)
      (I := fun i _ M' => M' = M) (R := fun o => o = fMd_holdsOne_30 FU (nI m) (nI h) (nI k) (nI g) (nI (m ^ k)) 0 0 M) ?_ ?_ 0 FU () M (by omega) (fu_ok (by omega)) rfl
    · rintro fu - M' rfl
      rw [fMd_holdsOne_6, if_pos (nI_le (by omega) (by omega))]
    · rintro fu i - M' hi rfl
      right
      refine ⟨(), M', ?_, rfl⟩
      rw [fMd_holdsOne_6, if_neg (nI_ge hi (by omega)), lt_eq, nI_times, nI_1, Nat.pow_succ]
  rw [e6]
  refine lpE (f := fun fu x (s : Bool) M => fMd_holdsOne_30 fu (nI m) (nI h) (nI k) (nI g) (nI (m ^ k)) (bI s) (nI x) M) (n := m ^ k)
    (I := fun x s M' => fq (fun c _ => c = 24) M M' ∧ (s = true → hld m h k g) ∧ (s = false → ∀ y, y < x → ¬ gd m h g (digs m k y)))
    (R := fun o => ∃ (b : Bool) (M2 : zM), o = some (bI b, M2) ∧ (b = true ↔ hld m h k g) ∧ fq (fun c _ => c = 24) M M2) ?_ ?_ 0 FU false M (by omega) (fu_ok (by omega)) ⟨fq_rf, fun z => (by cases z), fun _ y z => by omega⟩
  · rintro fu s M' ⟨h1, h2, h3⟩
    refine ⟨s, M', ?_, ⟨h2, fun ⟨Q, q1, q2⟩ => ?_⟩, h1⟩
    · rw [fMd_holdsOne_30, if_pos (nI_le (by omega) (by omega))]
      cases s <;> simp [bI, zbl_0, zbl_1]
    · cases s with
      | true => rfl
      | false =>
        obtain ⟨x, x1, x2⟩ := digs_all hm1 Q q2.1
        rw [q1] at x1 x2
        exact absurd (by rw [x2]; exact q2) (h3 rfl x x1)
  · rintro fu x s M' hx ⟨h1, h2, h3⟩
    cases s with
    | true =>
      left
      refine ⟨true, M', ?_, ⟨h2, fun _ => rfl⟩, h1⟩
      rw [fMd_holdsOne_30, if_neg (nI_ge hx (by omega)), bI_t, if_pos (by decide), zbl_1]
    | false =>
      right
      obtain ⟨b, M2, c1, c2, c3⟩ := pick_Y (M := M') hm1 hm hh hg hk (show x < 5000 by omega)
      refine ⟨b, M2, ?_, fq_tr h1 c3, fun z => ⟨digs m k x, digs_len k x, c2.mp z⟩, fun z y hy => ?_⟩
      · rw [fMd_holdsOne_30, if_neg (nI_ge hx (by omega)), bI_f, if_neg (not_not_intro rfl), c1, cl_some, nI_1]
      · by_cases hyx : y = x
        · rw [hyx]
          intro hgd
          rw [c2.mpr hgd] at z
          cases z
        · exact h3 rfl y (by omega)
