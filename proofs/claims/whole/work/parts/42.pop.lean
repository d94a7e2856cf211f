/-! PURE: Integer.bitCount -/
theorem zush_nI {n j : Nat} (h : n < 2 ^ 32) (hj : j < 32) : zush (nI n) (nI j) = nI (n / 2 ^ j) := by
  unfold zush
  exact pk_ushrN h (nI j) j (s_u j hj)
def vl : List Nat → Nat
  | [] => 0
  | d :: ds => 16 * vl ds + d
theorem vl_and : ∀ (ds ms : List Nat), ds.length = ms.length → (∀ d ∈ ds, d < 16) → (∀ d ∈ ms, d < 16) → vl ds &&& vl ms = vl (List.zipWith (· &&& ·) ds ms)
  | [], [], _, _, _ => rfl
  | d :: ds, m :: ms, hl, h1, h2 => by
    have ih := vl_and ds ms (by simpa using hl) (fun x hx => h1 x (List.mem_cons_of_mem _ hx)) (fun x hx => h2 x (List.mem_cons_of_mem _ hx))
    have hd : d < 2 ^ 4 := h1 d List.mem_cons_self
    have hm : m < 2 ^ 4 := h2 m List.mem_cons_self
    have hdm : d &&& m < 2 ^ 4 := Nat.lt_of_le_of_lt Nat.and_le_left hd
    show (2 ^ 4 * vl ds + d) &&& (2 ^ 4 * vl ms + m) = 2 ^ 4 * vl (List.zipWith (· &&& ·) ds ms) + (d &&& m)
    rw [← ih]
    apply Nat.eq_of_testBit_eq
    intro i
    rw [Nat.testBit_and, Nat.testBit_two_pow_mul_add _ hd, Nat.testBit_two_pow_mul_add _ hm, Nat.testBit_two_pow_mul_add _ hdm]
    by_cases hi : i < 4
    · simp [hi, Nat.testBit_and]
    · simp [hi, Nat.testBit_and]
  | [], m :: ms, hl, _, _ => by cases hl
  | d :: ds, [], hl, _, _ => by cases hl
theorem vl_bit : ∀ (ds : List Nat) (i j : Nat) (d : Nat), (∀ d ∈ ds, d < 16) → ds[i]? = some d → j < 4 → (vl ds).testBit (4 * i + j) = d.testBit j
  | [], i, _, _, _, h, _ => by cases h
  | d0 :: ds, 0, j, d, hd, h, hj => by
    cases Option.some.inj h
    have h0 : d0 < 2 ^ 4 := hd d0 List.mem_cons_self
    show (2 ^ 4 * vl ds + d0).testBit (4 * 0 + j) = _
    rw [Nat.testBit_two_pow_mul_add _ h0]
    simp [hj]
  | d0 :: ds, i + 1, j, d, hd, h, hj => by
    have h0 : d0 < 2 ^ 4 := hd d0 List.mem_cons_self
    show (2 ^ 4 * vl ds + d0).testBit (4 * (i + 1) + j) = _
    rw [Nat.testBit_two_pow_mul_add _ h0, if_neg (by omega), show 4 * (i + 1) + j - 4 = 4 * i + j by omega]
    exact vl_bit ds i j d (fun x hx => hd x (List.mem_cons_of_mem _ hx)) h hj
def popc (n : Nat) : Nat := fb_ct (fun i => n.testBit i) 32
def hexs (n : Nat) : List Nat := [n % 16, n / 16 % 16, n / 256 % 16, n / 4096 % 16, n / 65536 % 16, n / 1048576 % 16, n / 16777216 % 16, n / 268435456 % 16]
theorem vl_hexs {n : Nat} (h : n < 2 ^ 32) : vl (hexs n) = n := by
  simp only [hexs, vl]
  omega
def pc4 (h : Nat) : Nat := fb_ct (fun i => h.testBit i) 4
theorem pc4_le : ∀ h, h < 16 → pc4 h ≤ 4 := by decide
theorem popc_vl {a b c d e f g h : Nat} (ha : a < 16) (hb : b < 16) (hc : c < 16) (hd : d < 16) (he : e < 16) (hf : f < 16) (hg : g < 16) (hh : h < 16) : popc (vl [a, b, c, d, e, f, g, h]) = pc4 a + pc4 b + pc4 c + pc4 d + pc4 e + pc4 f + pc4 g + pc4 h := by
  have hd : ∀ x ∈ [a, b, c, d, e, f, g, h], x < 16 := by
    intro x hx
    simp only [List.mem_cons, List.not_mem_nil, or_false] at hx
    omega
  have key : ∀ i x, [a, b, c, d, e, f, g, h][i]? = some x → fb_ct (fun j => (vl [a, b, c, d, e, f, g, h]).testBit (4 * i + j)) 4 = pc4 x := fun i x hx => fb_ct_cong (fun j hj => vl_bit _ i j x hd hx hj)
  unfold popc
  generalize hv : vl [a, b, c, d, e, f, g, h] = v at key
  have s7 := fb_ct_split (fun i => v.testBit i) 28 4
  have s6 := fb_ct_split (fun i => v.testBit i) 24 4
  have s5 := fb_ct_split (fun i => v.testBit i) 20 4
  have s4 := fb_ct_split (fun i => v.testBit i) 16 4
  have s3 := fb_ct_split (fun i => v.testBit i) 12 4
  have s2 := fb_ct_split (fun i => v.testBit i) 8 4
  have s1 := fb_ct_split (fun i => v.testBit i) 4 4
  have k0 := key 0 a rfl
  have k1 := key 1 b rfl
  have k2 := key 2 c rfl
  have k3 := key 3 d rfl
  have k4 := key 4 e rfl
  have k5 := key 5 f rfl
  have k6 := key 6 g rfl
  have k7 := key 7 h rfl
  simp only [Nat.mul_zero, Nat.zero_add, Nat.reduceMul] at k0 k1 k2 k3 k4 k5 k6 k7
  simp only [Nat.reduceAdd] at s1 s2 s3 s4 s5 s6 s7
  omega
/-- step 1, a figure of four bits at a time -/
theorem pop1 : ∀ (ds : List Nat), (∀ d ∈ ds, d < 16) → vl ds / 2 &&& vl (ds.map (fun _ => 5)) = vl (ds.map (fun d => d / 2 &&& 5))
  | [], _ => rfl
  | d :: ds, hd => by
    have ih := pop1 ds (fun x hx => hd x (List.mem_cons_of_mem _ hx))
    have h0 : d < 16 := hd d List.mem_cons_self
    have e1 : vl (d :: ds) / 2 = 2 ^ 4 * (vl ds / 2) + (8 * (vl ds % 2) + d / 2) := by
      simp only [vl]
      omega
    have hl : 8 * (vl ds % 2) + d / 2 < 2 ^ 4 := by omega
    have h5 : d / 2 &&& 5 < 2 ^ 4 := Nat.lt_of_le_of_lt Nat.and_le_right (by decide)
    rw [e1]
    show (2 ^ 4 * (vl ds / 2) + (8 * (vl ds % 2) + d / 2)) &&& (2 ^ 4 * vl (ds.map (fun _ => 5)) + 5) = 2 ^ 4 * vl (ds.map (fun d => d / 2 &&& 5)) + (d / 2 &&& 5)
    rw [← ih]
    have e5 : ∀ a, a < 8 → ∀ b, b < 2 → (8 * b + a) &&& 5 = a &&& 5 := by decide
    apply Nat.eq_of_testBit_eq
    intro i
    rw [Nat.testBit_and, Nat.testBit_two_pow_mul_add _ hl, Nat.testBit_two_pow_mul_add _ (show 5 < 2 ^ 4 by decide), Nat.testBit_two_pow_mul_add _ h5]
    by_cases hi : i < 4
    · simp only [hi, if_true]
      rw [← Nat.testBit_and, e5 (d / 2) (by omega) (vl ds % 2) (by omega)]
    · simp only [hi, if_false]
      rw [← Nat.testBit_and]
theorem and_le5 : ∀ d, d < 16 → d / 2 &&& 5 ≤ d := by decide
theorem dig1 : ∀ d, d < 16 → d - (d / 2 &&& 5) < 16 ∧ ((d - (d / 2 &&& 5)) &&& 3) + ((d - (d / 2 &&& 5)) / 4 &&& 3) = pc4 d := by decide
theorem pop2 : ∀ (ds : List Nat), (∀ d ∈ ds, d < 16) → vl ds / 4 &&& vl (ds.map (fun _ => 3)) = vl (ds.map (fun d => d / 4 &&& 3))
  | [], _ => rfl
  | d :: ds, hd => by
    have ih := pop2 ds (fun x hx => hd x (List.mem_cons_of_mem _ hx))
    have h0 : d < 16 := hd d List.mem_cons_self
    have e1 : vl (d :: ds) / 4 = 2 ^ 4 * (vl ds / 4) + (4 * (vl ds % 4) + d / 4) := by
      simp only [vl]
      omega
    have hl : 4 * (vl ds % 4) + d / 4 < 2 ^ 4 := by omega
    have h5 : d / 4 &&& 3 < 2 ^ 4 := Nat.lt_of_le_of_lt Nat.and_le_right (by decide)
    rw [e1]
    show (2 ^ 4 * (vl ds / 4) + (4 * (vl ds % 4) + d / 4)) &&& (2 ^ 4 * vl (ds.map (fun _ => 3)) + 3) = 2 ^ 4 * vl (ds.map (fun d => d / 4 &&& 3)) + (d / 4 &&& 3)
    rw [← ih]
    have e5 : ∀ a, a < 4 → ∀ b, b < 4 → (4 * b + a) &&& 3 = a &&& 3 := by decide
    apply Nat.eq_of_testBit_eq
    intro i
    rw [Nat.testBit_and, Nat.testBit_two_pow_mul_add _ hl, Nat.testBit_two_pow_mul_add _ (show 3 < 2 ^ 4 by decide), Nat.testBit_two_pow_mul_add _ h5]
    by_cases hi : i < 4
    · simp only [hi, if_true]
      rw [← Nat.testBit_and, e5 (d / 4) (by omega) (vl ds % 4) (by omega)]
    · simp only [hi, if_false]
      rw [← Nat.testBit_and]
theorem nI_lit (n : Nat) : (OfNat.ofNat n : Int32) = nI n := rfl
theorem bitCount_ok {n : Nat} (h : n < 2 ^ 32) (M : zM) : fJ6_bitCount (nI n) M = some (nI (popc n), M) := by
  obtain ⟨a, b, c, d, e, f, g, k, ha, hb, hc, hd, he, hf, hg, hk, rfl⟩ : ∃ a b c d e f g k : Nat, a < 16 ∧ b < 16 ∧ c < 16 ∧ d < 16 ∧ e < 16 ∧ f < 16 ∧ g < 16 ∧ k < 16 ∧ n = vl [a, b, c, d, e, f, g, k] :=
    ⟨n % 16, n / 16 % 16, n / 256 % 16, n / 4096 % 16, n / 65536 % 16, n / 1048576 % 16, n / 16777216 % 16, n / 268435456 % 16, by omega, by omega, by omega, by omega, by omega, by omega, by omega, by omega, (vl_hexs h).symm⟩
  have hall : ∀ x ∈ [a, b, c, d, e, f, g, k], x < 16 := by
    intro x hx
    simp only [List.mem_cons, List.not_mem_nil, or_false] at hx
    omega
  have p1 := pop1 _ hall
  have m5 : vl ([a, b, c, d, e, f, g, k].map (fun _ => 5)) = 1431655765 := by simp [vl]
  rw [m5] at p1
  simp only [List.map_cons, List.map_nil] at p1
  have e1 : zush (nI (vl [a, b, c, d, e, f, g, k])) 1 = nI (vl [a, b, c, d, e, f, g, k] / 2) := zush_nI (j := 1) h (by decide)
  have q1 : ∀ x, x < 16 → x / 2 &&& 5 ≤ x := and_le5
  have s1 : nI (vl [a, b, c, d, e, f, g, k]) - (zush (nI (vl [a, b, c, d, e, f, g, k])) 1 &&& 1431655765) = nI (vl [a - (a / 2 &&& 5), b - (b / 2 &&& 5), c - (c / 2 &&& 5), d - (d / 2 &&& 5), e - (e / 2 &&& 5), f - (f / 2 &&& 5), g - (g / 2 &&& 5), k - (k / 2 &&& 5)]) := by
    rw [e1, nI_lit 1431655765, fa_and, p1]
    have := q1 a ha; have := q1 b hb; have := q1 c hc; have := q1 d hd; have := q1 e he; have := q1 f hf; have := q1 g hg; have := q1 k hk
    rw [pk_sub (by simp only [vl]; omega)]
    congr 1
    simp only [vl]
    omega
  have pa := dig1 a ha; have pb := dig1 b hb; have pc := dig1 c hc; have pd := dig1 d hd; have pe := dig1 e he; have pf := dig1 f hf; have pg := dig1 g hg; have pk := dig1 k hk
  rw [popc_vl ha hb hc hd he hf hg hk]
  have la := pc4_le a ha; have lb := pc4_le b hb; have lc := pc4_le c hc; have ld := pc4_le d hd; have le := pc4_le e he; have lf := pc4_le f hf; have lg := pc4_le g hg; have lk := pc4_le k hk
  unfold fJ6_bitCount
  rw [lt_eq, s1]
  generalize a - (a / 2 &&& 5) = a1 at *
  generalize b - (b / 2 &&& 5) = b1 at *
  generalize c - (c / 2 &&& 5) = c1 at *
  generalize d - (d / 2 &&& 5) = d1 at *
  generalize e - (e / 2 &&& 5) = e1 at *
  generalize f - (f / 2 &&& 5) = f1 at *
  generalize g - (g / 2 &&& 5) = g1 at *
  generalize k - (k / 2 &&& 5) = k1 at *
  obtain ⟨a2, pa⟩ := pa; obtain ⟨b2, pb⟩ := pb; obtain ⟨c2, pc⟩ := pc; obtain ⟨d2, pd⟩ := pd; obtain ⟨e2, pe⟩ := pe; obtain ⟨f2, pf⟩ := pf; obtain ⟨g2, pg⟩ := pg; obtain ⟨k2, pk⟩ := pk
  have hall1 : ∀ x ∈ [a1, b1, c1, d1, e1, f1, g1, k1], x < 16 := by
    intro x hx
    simp only [List.mem_cons, List.not_mem_nil, or_false] at hx
    omega
  have h1lt : vl [a1, b1, c1, d1, e1, f1, g1, k1] < 2 ^ 32 := by simp only [vl]; omega
  have p2 := pop2 _ hall1
  have m3 : vl ([a1, b1, c1, d1, e1, f1, g1, k1].map (fun _ => 3)) = 858993459 := by simp [vl]
  have p3 := vl_and [a1, b1, c1, d1, e1, f1, g1, k1] [3, 3, 3, 3, 3, 3, 3, 3] rfl hall1 (by decide)
  have m3' : vl [3, 3, 3, 3, 3, 3, 3, 3] = 858993459 := by simp [vl]
  rw [m3] at p2
  rw [m3'] at p3
  simp only [List.map_cons, List.map_nil] at p2
  simp only [List.zipWith] at p3
  have e2' : zush (nI (vl [a1, b1, c1, d1, e1, f1, g1, k1])) 2 = nI (vl [a1, b1, c1, d1, e1, f1, g1, k1] / 4) := zush_nI (j := 2) h1lt (by decide)
  have s2 : (nI (vl [a1, b1, c1, d1, e1, f1, g1, k1]) &&& 858993459) + (zush (nI (vl [a1, b1, c1, d1, e1, f1, g1, k1])) 2 &&& 858993459) = nI (vl [pc4 a, pc4 b, pc4 c, pc4 d, pc4 e, pc4 f, pc4 g, pc4 k]) := by
    rw [e2', nI_lit 858993459, fa_and, fa_and, p2, p3, nI_add]
    congr 1
    rw [← pa, ← pb, ← pc, ← pd, ← pe, ← pf, ← pg, ← pk]
    simp only [vl]
    omega
  rw [lt_eq, s2]
  generalize pc4 a = A at *
  generalize pc4 b = B at *
  generalize pc4 c = C at *
  generalize pc4 d = D at *
  generalize pc4 e = E at *
  generalize pc4 f = F at *
  generalize pc4 g = G at *
  generalize pc4 k = K at *
  have h2lt : vl [A, B, C, D, E, F, G, K] < 2 ^ 32 := by simp only [vl]; omega
  have e3 : zush (nI (vl [A, B, C, D, E, F, G, K])) 4 = nI (vl [A, B, C, D, E, F, G, K] / 16) := zush_nI (j := 4) h2lt (by decide)
  have s3 : (nI (vl [A, B, C, D, E, F, G, K]) + zush (nI (vl [A, B, C, D, E, F, G, K])) 4) &&& 252645135 = nI (vl [A + B, 0, C + D, 0, E + F, 0, G + K, 0]) := by
    have ev : vl [A, B, C, D, E, F, G, K] + vl [A, B, C, D, E, F, G, K] / 16 = vl [A + B, B + C, C + D, D + E, E + F, F + G, G + K, K] := by simp only [vl]; omega
    have pz := vl_and [A + B, B + C, C + D, D + E, E + F, F + G, G + K, K] [15, 0, 15, 0, 15, 0, 15, 0] rfl (by
      intro x hx
      simp only [List.mem_cons, List.not_mem_nil, or_false] at hx
      omega) (by decide)
    have mz : vl [15, 0, 15, 0, 15, 0, 15, 0] = 252645135 := by simp [vl]
    rw [mz] at pz
    simp only [List.zipWith, Nat.and_zero] at pz
    have f15 : ∀ x, x < 16 → x &&& 15 = x := by decide
    rw [f15 _ (by omega), f15 _ (by omega), f15 _ (by omega), f15 _ (by omega)] at pz
    rw [e3, nI_add, ev, nI_lit 252645135, fa_and, pz]
  rw [lt_eq, s3]
  have h3lt : vl [A + B, 0, C + D, 0, E + F, 0, G + K, 0] < 2 ^ 32 := by simp only [vl]; omega
  have e4 : zush (nI (vl [A + B, 0, C + D, 0, E + F, 0, G + K, 0])) 8 = nI (vl [A + B, 0, C + D, 0, E + F, 0, G + K, 0] / 2 ^ 8) := zush_nI (j := 8) h3lt (by decide)
  rw [lt_eq, e4, nI_add]
  have h4lt : vl [A + B, 0, C + D, 0, E + F, 0, G + K, 0] + vl [A + B, 0, C + D, 0, E + F, 0, G + K, 0] / 2 ^ 8 < 2 ^ 32 := by simp only [vl]; omega
  have e5 : zush (nI (vl [A + B, 0, C + D, 0, E + F, 0, G + K, 0] + vl [A + B, 0, C + D, 0, E + F, 0, G + K, 0] / 2 ^ 8)) 16 = nI ((vl [A + B, 0, C + D, 0, E + F, 0, G + K, 0] + vl [A + B, 0, C + D, 0, E + F, 0, G + K, 0] / 2 ^ 8) / 2 ^ 16) := zush_nI (j := 16) h4lt (by decide)
  rw [lt_eq, e5, nI_add]
  have e6 : ∀ x, nI x &&& 63 = nI (x % 64) := fun x => fa_mask x 6
  rw [e6]
  have ev : vl [A + B, 0, C + D, 0, E + F, 0, G + K, 0] = (A + B) + 256 * (C + D) + 65536 * (E + F) + 16777216 * (G + K) := by simp only [vl]; omega
  have ev1 : vl [A + B, 0, C + D, 0, E + F, 0, G + K, 0] / 2 ^ 8 = (C + D) + 256 * (E + F) + 65536 * (G + K) := by rw [ev]; omega
  have ev2 : vl [A + B, 0, C + D, 0, E + F, 0, G + K, 0] + vl [A + B, 0, C + D, 0, E + F, 0, G + K, 0] / 2 ^ 8 = (A + B + (C + D)) + 256 * (C + D + (E + F)) + 65536 * ((E + F) + (G + K)) + 16777216 * (G + K) := by rw [ev1, ev]; omega
  have ev3 : (vl [A + B, 0, C + D, 0, E + F, 0, G + K, 0] + vl [A + B, 0, C + D, 0, E + F, 0, G + K, 0] / 2 ^ 8) / 2 ^ 16 = (E + F) + (G + K) + 256 * (G + K) := by rw [ev2]; omega
  rw [ev3, ev2]
  have ev4 : ((A + B + (C + D)) + 256 * (C + D + (E + F)) + 65536 * ((E + F) + (G + K)) + 16777216 * (G + K) + ((E + F) + (G + K) + 256 * (G + K))) % 64 = A + B + C + D + E + F + G + K := by omega
  rw [ev4]
