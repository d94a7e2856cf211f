theorem fa_litw (n : Nat) : (OfNat.ofNat n : Int32) = nI n := by
  show Int32.ofNat n = nI n
  rfl
theorem ladd (q k : Nat) : nI q + OfNat.ofNat k = nI (q + k) := by rw [fa_litw k, nI_add]
def zStep (Rl : zM → zM → Nat → Prop) (f g : zM → Option (Int32 × zM)) : Prop := ∀ (Mx My : zM) (n : Nat), n < 512 → Rl Mx My n → ∃ (r : Int32) (Mx1 My1 : zM), f Mx = some (r, Mx1) ∧ g My = some (r, My1) ∧ Rl Mx1 My1 (n + 1)
def zSteps (Rl : zM → zM → Nat → Prop) : Prop := (∀ (a0 : Int32), zStep Rl (fun M => fNN_net a0 M) (fun M => fMd_net a0 M)) ∧ (zStep Rl (fun M => fNN_post  M) (fun M => fMd_post  M)) ∧ (∀ (a0 : Int32) (a1 : Int32), zStep Rl (fun M => fNN_line a0 a1 M) (fun M => fMd_line a0 a1 M)) ∧ (∀ (a0 : Int32), zStep Rl (fun M => fNN_strike a0 M) (fun M => fMd_strike a0 M)) ∧ (∀ (a0 : Int32), zStep Rl (fun M => fNN_count a0 M) (fun M => fMd_count a0 M)) ∧ (∀ (a0 : Int32) (a1 : Int32), zStep Rl (fun M => fNN_told a0 a1 M) (fun M => fMd_told a0 a1 M)) ∧ (∀ (a0 : Int32) (a1 : Int32), zStep Rl (fun M => fNN_lines a0 a1 M) (fun M => fMd_lines a0 a1 M)) ∧ (∀ (a0 : Int32) (a1 : Int32) (a2 : Int32), zStep Rl (fun M => fNN_name a0 a1 a2 M) (fun M => fMd_name a0 a1 a2 M)) ∧ (∀ (a0 : Int32) (a1 : Int32), zStep Rl (fun M => fNN_bits a0 a1 M) (fun M => fMd_bits a0 a1 M)) ∧ (∀ (a0 : Int32) (a1 : Int32) (a2 : Int32), zStep Rl (fun M => fNN_ask a0 a1 a2 M) (fun M => fMd_ask a0 a1 a2 M)) ∧ (∀ (a0 : Int32) (a1 : Int32) (a2 : Int32), zStep Rl (fun M => fNN_parted a0 a1 a2 M) (fun M => fMd_parted a0 a1 a2 M)) ∧ (∀ (a0 : Int32), zStep Rl (fun M => fNN_learn a0 M) (fun M => fMd_learn a0 M)) ∧ (∀ (a0 : Int32) (a1 : Int32) (a2 : Int32) (a3 : Int32), zStep Rl (fun M => fNN_forge a0 a1 a2 a3 M) (fun M => fMd_forge a0 a1 a2 a3 M)) ∧ (∀ (a0 : Int32) (a1 : Int32) (a2 : Int32), zStep Rl (fun M => fNN_book a0 a1 a2 M) (fun M => fMd_book a0 a1 a2 M)) ∧ (∀ (a0 : Int32) (a1 : Int32) (a2 : Int32), zStep Rl (fun M => fNN_answer a0 a1 a2 M) (fun M => fMd_answer a0 a1 a2 M)) ∧ (∀ (a0 : Int32), zStep Rl (fun M => fNN_stale a0 M) (fun M => fMd_stale a0 M)) ∧ (∀ (a0 : Int32), zStep Rl (fun M => fNN_damaged a0 M) (fun M => fMd_damaged a0 M)) ∧ (∀ (a0 : Int32) (a1 : Int32), zStep Rl (fun M => fNN_next a0 a1 M) (fun M => fMd_next a0 a1 M)) ∧ (∀ (a0 : Int32) (a1 : Int32), zStep Rl (fun M => fNN_goes a0 a1 M) (fun M => fMd_goes a0 a1 M)) ∧ (∀ (a0 : Int32), zStep Rl (fun M => fNN_stretch a0 M) (fun M => fMd_stretch a0 M)) ∧ (∀ (a0 : Int32) (a1 : Int32), zStep Rl (fun M => fNN_cut a0 a1 M) (fun M => fMd_cut a0 a1 M)) ∧ (∀ (a0 : Int32) (a1 : Int32), zStep Rl (fun M => fNN_ways a0 a1 M) (fun M => fMd_ways a0 a1 M)) ∧ (∀ (a0 : Int32) (a1 : Int32) (a2 : Int32) (a3 : Int32), zStep Rl (fun M => fNN_holds a0 a1 a2 a3 M) (fun M => fMd_holds a0 a1 a2 a3 M)) ∧ (∀ (a0 : Int32) (a1 : Int32) (a2 : Int32), zStep Rl (fun M => fNN_universal a0 a1 a2 M) (fun M => fMd_universal a0 a1 a2 M)) ∧ (zStep Rl (fun M => fNN_small  M) (fun M => fMd_small  M)) ∧ (∀ (a0 : Int32) (a1 : Int64), zStep Rl (fun M => fNN_feed a0 a1 M) (fun M => fMd_feed a0 a1 M)) ∧ (zStep Rl (fun M => fNN_read  M) (fun M => fMd_read  M)) ∧ (zStep Rl (fun M => fNN_fault  M) (fun M => fMd_fault  M)) ∧ (∀ (a0 : Int32), zStep Rl (fun M => fNN_said a0 M) (fun M => fMd_said a0 M))
section lCases
variable {p : Program} {l : Launch} {e : Env} {s : State} {m : MethodId} {below : List Frame} {meth : Method} {c : Code} {G : zG} {b L : Nat} {xs : Nat → Int32} {adX adY : Nat → Nat} {n1 n2 : Nat}
theorem lgt (L t : Nat) (hL : L ≤ 2560) (h : L < 5 * t + 5) : t ≤ 512 → nI L - 5 < nI (5 * t) := by
  intro ht
  rw [show (5 : Int32) = nI 5 from rfl, Int32.lt_iff_toInt_lt, pk_sub_toInt (by omega) (by omega), nI_toInt (by omega)]
  omega
theorem law_net (C : lCx p s m meth c G b L xs adX adY) (hn : n1 ≤ 600000 ∧ n2 ≤ 7302250) {Rl : zM → zM → Nat → Prop} {t : Nat} {Mx My : zM} (hL : L ≤ 2560) (ht : 5 * t + 5 ≤ L) (hS : zStep Rl (fun M => fNN_net (xs (5 * t + 1)) M) (fun M => fMd_net (xs (5 * t + 1)) M)) (hRl : Rl Mx My t)
    (h3 : ∀ (r : Int32) (Mx1 My1 : zM), Rl Mx1 My1 (t + 1) → lV p l e s m below meth c G b adX adY n1 n2 1091 [(0, .ref 0), (1, .ref 1), (2, .ref 2), (3, .int (nI (5 * t)))] [] Mx1 My1) : lV p l e s m below meth c G b adX adY n1 n2 164 [(0, .ref 0), (1, .ref 1), (2, .ref 2), (3, .int (nI (5 * t)))] [] Mx My := by
  obtain ⟨r, Mx1, My1, h1, h2, hR⟩ := hS Mx My t (by omega) hRl
  refine l_aload_n (pc := 164) C dL_law_164 rfl ?_
  refine l_aload_n (pc := 165) C dL_law_165 rfl ?_
  refine l_iload_n (pc := 166) C dL_law_166 rfl ?_
  refine l_iconst (pc := 167) 1 C dL_law_167 (by decide) ?_
  refine l_iadd (pc := 168) C dL_law_168 ?_
  refine l_sld (pc := 169) (5 * t + 1) C (ladd _ 1) (by omega) (by omega) dL_law_169 ?_
  refine l_callX (pc := 170) (As := [.int (xs (5 * t + 1))]) C (cNN_net l G (xs (5 * t + 1)) Mx) h1 zc_X9_net rfl (fun _ => rfl) tw_456 (by decide) (Nat.le_of_ble_eq_true rfl) dL_law_170 ?_ hn
  refine l_aload_n (pc := 173) C dL_law_173 rfl ?_
  refine l_aload_n (pc := 174) C dL_law_174 rfl ?_
  refine l_iload_n (pc := 175) C dL_law_175 rfl ?_
  refine l_iconst (pc := 176) 1 C dL_law_176 (by decide) ?_
  refine l_iadd (pc := 177) C dL_law_177 ?_
  refine l_sld (pc := 178) (5 * t + 1) C (ladd _ 1) (by omega) (by omega) dL_law_178 ?_
  refine l_callY (pc := 179) (As := [.int (xs (5 * t + 1))]) C (cMd_net l G (xs (5 * t + 1)) My) h2 zc_X10_net rfl (fun _ => rfl) tw_1148 (by decide) (Nat.le_of_ble_eq_true rfl) dL_law_179 ?_ hn
  refine l_icmp_eq (pc := 182) 1091 C dL_law_182 (by decide) ?_
  exact h3 r Mx1 My1 hR
theorem law_post (C : lCx p s m meth c G b L xs adX adY) (hn : n1 ≤ 600000 ∧ n2 ≤ 7302250) {Rl : zM → zM → Nat → Prop} {t : Nat} {Mx My : zM} (hL : L ≤ 2560) (ht : 5 * t + 5 ≤ L) (hS : zStep Rl (fun M => fNN_post  M) (fun M => fMd_post  M)) (hRl : Rl Mx My t)
    (h3 : ∀ (r : Int32) (Mx1 My1 : zM), Rl Mx1 My1 (t + 1) → lV p l e s m below meth c G b adX adY n1 n2 1091 [(0, .ref 0), (1, .ref 1), (2, .ref 2), (3, .int (nI (5 * t)))] [] Mx1 My1) : lV p l e s m below meth c G b adX adY n1 n2 187 [(0, .ref 0), (1, .ref 1), (2, .ref 2), (3, .int (nI (5 * t)))] [] Mx My := by
  obtain ⟨r, Mx1, My1, h1, h2, hR⟩ := hS Mx My t (by omega) hRl
  refine l_aload_n (pc := 187) C dL_law_187 rfl ?_
  refine l_callX (pc := 188) (As := []) C (cNN_post l G  Mx) h1 zc_X9_post rfl (fun _ => rfl) tw_467 (by decide) (Nat.le_of_ble_eq_true rfl) dL_law_188 ?_ hn
  refine l_aload_n (pc := 191) C dL_law_191 rfl ?_
  refine l_callY (pc := 192) (As := []) C (cMd_post l G  My) h2 zc_X10_post rfl (fun _ => rfl) tw_1156 (by decide) (Nat.le_of_ble_eq_true rfl) dL_law_192 ?_ hn
  refine l_icmp_eq (pc := 195) 1091 C dL_law_195 (by decide) ?_
  exact h3 r Mx1 My1 hR
theorem law_line (C : lCx p s m meth c G b L xs adX adY) (hn : n1 ≤ 600000 ∧ n2 ≤ 7302250) {Rl : zM → zM → Nat → Prop} {t : Nat} {Mx My : zM} (hL : L ≤ 2560) (ht : 5 * t + 5 ≤ L) (hS : zStep Rl (fun M => fNN_line (xs (5 * t + 1)) (xs (5 * t + 2)) M) (fun M => fMd_line (xs (5 * t + 1)) (xs (5 * t + 2)) M)) (hRl : Rl Mx My t)
    (h3 : ∀ (r : Int32) (Mx1 My1 : zM), Rl Mx1 My1 (t + 1) → lV p l e s m below meth c G b adX adY n1 n2 1091 [(0, .ref 0), (1, .ref 1), (2, .ref 2), (3, .int (nI (5 * t)))] [] Mx1 My1) : lV p l e s m below meth c G b adX adY n1 n2 200 [(0, .ref 0), (1, .ref 1), (2, .ref 2), (3, .int (nI (5 * t)))] [] Mx My := by
  obtain ⟨r, Mx1, My1, h1, h2, hR⟩ := hS Mx My t (by omega) hRl
  refine l_aload_n (pc := 200) C dL_law_200 rfl ?_
  refine l_aload_n (pc := 201) C dL_law_201 rfl ?_
  refine l_iload_n (pc := 202) C dL_law_202 rfl ?_
  refine l_iconst (pc := 203) 1 C dL_law_203 (by decide) ?_
  refine l_iadd (pc := 204) C dL_law_204 ?_
  refine l_sld (pc := 205) (5 * t + 1) C (ladd _ 1) (by omega) (by omega) dL_law_205 ?_
  refine l_aload_n (pc := 206) C dL_law_206 rfl ?_
  refine l_iload_n (pc := 207) C dL_law_207 rfl ?_
  refine l_iconst (pc := 208) 2 C dL_law_208 (by decide) ?_
  refine l_iadd (pc := 209) C dL_law_209 ?_
  refine l_sld (pc := 210) (5 * t + 2) C (ladd _ 2) (by omega) (by omega) dL_law_210 ?_
  refine l_callX (pc := 211) (As := [.int (xs (5 * t + 1)), .int (xs (5 * t + 2))]) C (cNN_line l G (xs (5 * t + 1)) (xs (5 * t + 2)) Mx) h1 zc_X9_line rfl (fun _ => rfl) tw_475 (by decide) (Nat.le_of_ble_eq_true rfl) dL_law_211 ?_ hn
  refine l_aload_n (pc := 214) C dL_law_214 rfl ?_
  refine l_aload_n (pc := 215) C dL_law_215 rfl ?_
  refine l_iload_n (pc := 216) C dL_law_216 rfl ?_
  refine l_iconst (pc := 217) 1 C dL_law_217 (by decide) ?_
  refine l_iadd (pc := 218) C dL_law_218 ?_
  refine l_sld (pc := 219) (5 * t + 1) C (ladd _ 1) (by omega) (by omega) dL_law_219 ?_
  refine l_aload_n (pc := 220) C dL_law_220 rfl ?_
  refine l_iload_n (pc := 221) C dL_law_221 rfl ?_
  refine l_iconst (pc := 222) 2 C dL_law_222 (by decide) ?_
  refine l_iadd (pc := 223) C dL_law_223 ?_
  refine l_sld (pc := 224) (5 * t + 2) C (ladd _ 2) (by omega) (by omega) dL_law_224 ?_
  refine l_callY (pc := 225) (As := [.int (xs (5 * t + 1)), .int (xs (5 * t + 2))]) C (cMd_line l G (xs (5 * t + 1)) (xs (5 * t + 2)) My) h2 zc_X10_line rfl (fun _ => rfl) tw_1160 (by decide) (Nat.le_of_ble_eq_true rfl) dL_law_225 ?_ hn
  refine l_icmp_eq (pc := 228) 1091 C dL_law_228 (by decide) ?_
  exact h3 r Mx1 My1 hR
theorem law_strike (C : lCx p s m meth c G b L xs adX adY) (hn : n1 ≤ 600000 ∧ n2 ≤ 7302250) {Rl : zM → zM → Nat → Prop} {t : Nat} {Mx My : zM} (hL : L ≤ 2560) (ht : 5 * t + 5 ≤ L) (hS : zStep Rl (fun M => fNN_strike (xs (5 * t + 1)) M) (fun M => fMd_strike (xs (5 * t + 1)) M)) (hRl : Rl Mx My t)
    (h3 : ∀ (r : Int32) (Mx1 My1 : zM), Rl Mx1 My1 (t + 1) → lV p l e s m below meth c G b adX adY n1 n2 1091 [(0, .ref 0), (1, .ref 1), (2, .ref 2), (3, .int (nI (5 * t)))] [] Mx1 My1) : lV p l e s m below meth c G b adX adY n1 n2 233 [(0, .ref 0), (1, .ref 1), (2, .ref 2), (3, .int (nI (5 * t)))] [] Mx My := by
  obtain ⟨r, Mx1, My1, h1, h2, hR⟩ := hS Mx My t (by omega) hRl
  refine l_aload_n (pc := 233) C dL_law_233 rfl ?_
  refine l_aload_n (pc := 234) C dL_law_234 rfl ?_
  refine l_iload_n (pc := 235) C dL_law_235 rfl ?_
  refine l_iconst (pc := 236) 1 C dL_law_236 (by decide) ?_
  refine l_iadd (pc := 237) C dL_law_237 ?_
  refine l_sld (pc := 238) (5 * t + 1) C (ladd _ 1) (by omega) (by omega) dL_law_238 ?_
  refine l_callX (pc := 239) (As := [.int (xs (5 * t + 1))]) C (cNN_strike l G (xs (5 * t + 1)) Mx) h1 zc_X9_strike rfl (fun _ => rfl) tw_495 (by decide) (Nat.le_of_ble_eq_true rfl) dL_law_239 ?_ hn
  refine l_aload_n (pc := 242) C dL_law_242 rfl ?_
  refine l_aload_n (pc := 243) C dL_law_243 rfl ?_
  refine l_iload_n (pc := 244) C dL_law_244 rfl ?_
  refine l_iconst (pc := 245) 1 C dL_law_245 (by decide) ?_
  refine l_iadd (pc := 246) C dL_law_246 ?_
  refine l_sld (pc := 247) (5 * t + 1) C (ladd _ 1) (by omega) (by omega) dL_law_247 ?_
  refine l_callY (pc := 248) (As := [.int (xs (5 * t + 1))]) C (cMd_strike l G (xs (5 * t + 1)) My) h2 zc_X10_strike rfl (fun _ => rfl) tw_1172 (by decide) (Nat.le_of_ble_eq_true rfl) dL_law_248 ?_ hn
  refine l_icmp_eq (pc := 251) 1091 C dL_law_251 (by decide) ?_
  exact h3 r Mx1 My1 hR
theorem law_count (C : lCx p s m meth c G b L xs adX adY) (hn : n1 ≤ 600000 ∧ n2 ≤ 7302250) {Rl : zM → zM → Nat → Prop} {t : Nat} {Mx My : zM} (hL : L ≤ 2560) (ht : 5 * t + 5 ≤ L) (hS : zStep Rl (fun M => fNN_count (xs (5 * t + 1)) M) (fun M => fMd_count (xs (5 * t + 1)) M)) (hRl : Rl Mx My t)
    (h3 : ∀ (r : Int32) (Mx1 My1 : zM), Rl Mx1 My1 (t + 1) → lV p l e s m below meth c G b adX adY n1 n2 1091 [(0, .ref 0), (1, .ref 1), (2, .ref 2), (3, .int (nI (5 * t)))] [] Mx1 My1) : lV p l e s m below meth c G b adX adY n1 n2 256 [(0, .ref 0), (1, .ref 1), (2, .ref 2), (3, .int (nI (5 * t)))] [] Mx My := by
  obtain ⟨r, Mx1, My1, h1, h2, hR⟩ := hS Mx My t (by omega) hRl
  refine l_aload_n (pc := 256) C dL_law_256 rfl ?_
  refine l_aload_n (pc := 257) C dL_law_257 rfl ?_
  refine l_iload_n (pc := 258) C dL_law_258 rfl ?_
  refine l_iconst (pc := 259) 1 C dL_law_259 (by decide) ?_
  refine l_iadd (pc := 260) C dL_law_260 ?_
  refine l_sld (pc := 261) (5 * t + 1) C (ladd _ 1) (by omega) (by omega) dL_law_261 ?_
  refine l_callX (pc := 262) (As := [.int (xs (5 * t + 1))]) C (cNN_count l G (xs (5 * t + 1)) Mx) h1 zc_X9_count rfl (fun _ => rfl) tw_507 (by decide) (Nat.le_of_ble_eq_true rfl) dL_law_262 ?_ hn
  refine l_aload_n (pc := 265) C dL_law_265 rfl ?_
  refine l_aload_n (pc := 266) C dL_law_266 rfl ?_
  refine l_iload_n (pc := 267) C dL_law_267 rfl ?_
  refine l_iconst (pc := 268) 1 C dL_law_268 (by decide) ?_
  refine l_iadd (pc := 269) C dL_law_269 ?_
  refine l_sld (pc := 270) (5 * t + 1) C (ladd _ 1) (by omega) (by omega) dL_law_270 ?_
  refine l_callY (pc := 271) (As := [.int (xs (5 * t + 1))]) C (cMd_count l G (xs (5 * t + 1)) My) h2 zc_X10_count rfl (fun _ => rfl) tw_1180 (by decide) (Nat.le_of_ble_eq_true rfl) dL_law_271 ?_ hn
  refine l_icmp_eq (pc := 274) 1091 C dL_law_274 (by decide) ?_
  exact h3 r Mx1 My1 hR
theorem law_told (C : lCx p s m meth c G b L xs adX adY) (hn : n1 ≤ 600000 ∧ n2 ≤ 7302250) {Rl : zM → zM → Nat → Prop} {t : Nat} {Mx My : zM} (hL : L ≤ 2560) (ht : 5 * t + 5 ≤ L) (hS : zStep Rl (fun M => fNN_told (xs (5 * t + 1)) (xs (5 * t + 2)) M) (fun M => fMd_told (xs (5 * t + 1)) (xs (5 * t + 2)) M)) (hRl : Rl Mx My t)
    (h3 : ∀ (r : Int32) (Mx1 My1 : zM), Rl Mx1 My1 (t + 1) → lV p l e s m below meth c G b adX adY n1 n2 1091 [(0, .ref 0), (1, .ref 1), (2, .ref 2), (3, .int (nI (5 * t)))] [] Mx1 My1) : lV p l e s m below meth c G b adX adY n1 n2 279 [(0, .ref 0), (1, .ref 1), (2, .ref 2), (3, .int (nI (5 * t)))] [] Mx My := by
  obtain ⟨r, Mx1, My1, h1, h2, hR⟩ := hS Mx My t (by omega) hRl
  refine l_aload_n (pc := 279) C dL_law_279 rfl ?_
  refine l_aload_n (pc := 280) C dL_law_280 rfl ?_
  refine l_iload_n (pc := 281) C dL_law_281 rfl ?_
  refine l_iconst (pc := 282) 1 C dL_law_282 (by decide) ?_
  refine l_iadd (pc := 283) C dL_law_283 ?_
  refine l_sld (pc := 284) (5 * t + 1) C (ladd _ 1) (by omega) (by omega) dL_law_284 ?_
  refine l_aload_n (pc := 285) C dL_law_285 rfl ?_
  refine l_iload_n (pc := 286) C dL_law_286 rfl ?_
  refine l_iconst (pc := 287) 2 C dL_law_287 (by decide) ?_
  refine l_iadd (pc := 288) C dL_law_288 ?_
  refine l_sld (pc := 289) (5 * t + 2) C (ladd _ 2) (by omega) (by omega) dL_law_289 ?_
  refine l_callX (pc := 290) (As := [.int (xs (5 * t + 1)), .int (xs (5 * t + 2))]) C (cNN_told l G (xs (5 * t + 1)) (xs (5 * t + 2)) Mx) h1 zc_X9_told rfl (fun _ => rfl) tw_562 (by decide) (Nat.le_of_ble_eq_true rfl) dL_law_290 ?_ hn
  refine l_aload_n (pc := 293) C dL_law_293 rfl ?_
  refine l_aload_n (pc := 294) C dL_law_294 rfl ?_
  refine l_iload_n (pc := 295) C dL_law_295 rfl ?_
  refine l_iconst (pc := 296) 1 C dL_law_296 (by decide) ?_
  refine l_iadd (pc := 297) C dL_law_297 ?_
  refine l_sld (pc := 298) (5 * t + 1) C (ladd _ 1) (by omega) (by omega) dL_law_298 ?_
  refine l_aload_n (pc := 299) C dL_law_299 rfl ?_
  refine l_iload_n (pc := 300) C dL_law_300 rfl ?_
  refine l_iconst (pc := 301) 2 C dL_law_301 (by decide) ?_
  refine l_iadd (pc := 302) C dL_law_302 ?_
  refine l_sld (pc := 303) (5 * t + 2) C (ladd _ 2) (by omega) (by omega) dL_law_303 ?_
  refine l_callY (pc := 304) (As := [.int (xs (5 * t + 1)), .int (xs (5 * t + 2))]) C (cMd_told l G (xs (5 * t + 1)) (xs (5 * t + 2)) My) h2 zc_X10_told rfl (fun _ => rfl) tw_1199 (by decide) (Nat.le_of_ble_eq_true rfl) dL_law_304 ?_ hn
  refine l_icmp_eq (pc := 307) 1091 C dL_law_307 (by decide) ?_
  exact h3 r Mx1 My1 hR
theorem law_lines (C : lCx p s m meth c G b L xs adX adY) (hn : n1 ≤ 600000 ∧ n2 ≤ 7302250) {Rl : zM → zM → Nat → Prop} {t : Nat} {Mx My : zM} (hL : L ≤ 2560) (ht : 5 * t + 5 ≤ L) (hS : zStep Rl (fun M => fNN_lines (xs (5 * t + 1)) (xs (5 * t + 2)) M) (fun M => fMd_lines (xs (5 * t + 1)) (xs (5 * t + 2)) M)) (hRl : Rl Mx My t)
    (h3 : ∀ (r : Int32) (Mx1 My1 : zM), Rl Mx1 My1 (t + 1) → lV p l e s m below meth c G b adX adY n1 n2 1091 [(0, .ref 0), (1, .ref 1), (2, .ref 2), (3, .int (nI (5 * t)))] [] Mx1 My1) : lV p l e s m below meth c G b adX adY n1 n2 312 [(0, .ref 0), (1, .ref 1), (2, .ref 2), (3, .int (nI (5 * t)))] [] Mx My := by
  obtain ⟨r, Mx1, My1, h1, h2, hR⟩ := hS Mx My t (by omega) hRl
  refine l_aload_n (pc := 312) C dL_law_312 rfl ?_
  refine l_aload_n (pc := 313) C dL_law_313 rfl ?_
  refine l_iload_n (pc := 314) C dL_law_314 rfl ?_
  refine l_iconst (pc := 315) 1 C dL_law_315 (by decide) ?_
  refine l_iadd (pc := 316) C dL_law_316 ?_
  refine l_sld (pc := 317) (5 * t + 1) C (ladd _ 1) (by omega) (by omega) dL_law_317 ?_
  refine l_aload_n (pc := 318) C dL_law_318 rfl ?_
  refine l_iload_n (pc := 319) C dL_law_319 rfl ?_
  refine l_iconst (pc := 320) 2 C dL_law_320 (by decide) ?_
  refine l_iadd (pc := 321) C dL_law_321 ?_
  refine l_sld (pc := 322) (5 * t + 2) C (ladd _ 2) (by omega) (by omega) dL_law_322 ?_
  refine l_callX (pc := 323) (As := [.int (xs (5 * t + 1)), .int (xs (5 * t + 2))]) C (cNN_lines l G (xs (5 * t + 1)) (xs (5 * t + 2)) Mx) h1 zc_X9_lines rfl (fun _ => rfl) tw_633 (by decide) (Nat.le_of_ble_eq_true rfl) dL_law_323 ?_ hn
  refine l_aload_n (pc := 326) C dL_law_326 rfl ?_
  refine l_aload_n (pc := 327) C dL_law_327 rfl ?_
  refine l_iload_n (pc := 328) C dL_law_328 rfl ?_
  refine l_iconst (pc := 329) 1 C dL_law_329 (by decide) ?_
  refine l_iadd (pc := 330) C dL_law_330 ?_
  refine l_sld (pc := 331) (5 * t + 1) C (ladd _ 1) (by omega) (by omega) dL_law_331 ?_
  refine l_aload_n (pc := 332) C dL_law_332 rfl ?_
  refine l_iload_n (pc := 333) C dL_law_333 rfl ?_
  refine l_iconst (pc := 334) 2 C dL_law_334 (by decide) ?_
  refine l_iadd (pc := 335) C dL_law_335 ?_
  refine l_sld (pc := 336) (5 * t + 2) C (ladd _ 2) (by omega) (by omega) dL_law_336 ?_
  refine l_callY (pc := 337) (As := [.int (xs (5 * t + 1)), .int (xs (5 * t + 2))]) C (cMd_lines l G (xs (5 * t + 1)) (xs (5 * t + 2)) My) h2 zc_X10_lines rfl (fun _ => rfl) tw_1211 (by decide) (Nat.le_of_ble_eq_true rfl) dL_law_337 ?_ hn
  refine l_icmp_eq (pc := 340) 1091 C dL_law_340 (by decide) ?_
  exact h3 r Mx1 My1 hR
theorem law_name (C : lCx p s m meth c G b L xs adX adY) (hn : n1 ≤ 600000 ∧ n2 ≤ 7302250) {Rl : zM → zM → Nat → Prop} {t : Nat} {Mx My : zM} (hL : L ≤ 2560) (ht : 5 * t + 5 ≤ L) (hS : zStep Rl (fun M => fNN_name (xs (5 * t + 1)) (xs (5 * t + 2)) (xs (5 * t + 3)) M) (fun M => fMd_name (xs (5 * t + 1)) (xs (5 * t + 2)) (xs (5 * t + 3)) M)) (hRl : Rl Mx My t)
    (h3 : ∀ (r : Int32) (Mx1 My1 : zM), Rl Mx1 My1 (t + 1) → lV p l e s m below meth c G b adX adY n1 n2 1091 [(0, .ref 0), (1, .ref 1), (2, .ref 2), (3, .int (nI (5 * t)))] [] Mx1 My1) : lV p l e s m below meth c G b adX adY n1 n2 345 [(0, .ref 0), (1, .ref 1), (2, .ref 2), (3, .int (nI (5 * t)))] [] Mx My := by
  obtain ⟨r, Mx1, My1, h1, h2, hR⟩ := hS Mx My t (by omega) hRl
  refine l_aload_n (pc := 345) C dL_law_345 rfl ?_
  refine l_aload_n (pc := 346) C dL_law_346 rfl ?_
  refine l_iload_n (pc := 347) C dL_law_347 rfl ?_
  refine l_iconst (pc := 348) 1 C dL_law_348 (by decide) ?_
  refine l_iadd (pc := 349) C dL_law_349 ?_
  refine l_sld (pc := 350) (5 * t + 1) C (ladd _ 1) (by omega) (by omega) dL_law_350 ?_
  refine l_aload_n (pc := 351) C dL_law_351 rfl ?_
  refine l_iload_n (pc := 352) C dL_law_352 rfl ?_
  refine l_iconst (pc := 353) 2 C dL_law_353 (by decide) ?_
  refine l_iadd (pc := 354) C dL_law_354 ?_
  refine l_sld (pc := 355) (5 * t + 2) C (ladd _ 2) (by omega) (by omega) dL_law_355 ?_
  refine l_aload_n (pc := 356) C dL_law_356 rfl ?_
  refine l_iload_n (pc := 357) C dL_law_357 rfl ?_
  refine l_iconst (pc := 358) 3 C dL_law_358 (by decide) ?_
  refine l_iadd (pc := 359) C dL_law_359 ?_
  refine l_sld (pc := 360) (5 * t + 3) C (ladd _ 3) (by omega) (by omega) dL_law_360 ?_
  refine l_callX (pc := 361) (As := [.int (xs (5 * t + 1)), .int (xs (5 * t + 2)), .int (xs (5 * t + 3))]) C (cNN_name l G (xs (5 * t + 1)) (xs (5 * t + 2)) (xs (5 * t + 3)) Mx) h1 zc_X9_name rfl (fun _ => rfl) tw_637 (by decide) (Nat.le_of_ble_eq_true rfl) dL_law_361 ?_ hn
  refine l_aload_n (pc := 364) C dL_law_364 rfl ?_
  refine l_aload_n (pc := 365) C dL_law_365 rfl ?_
  refine l_iload_n (pc := 366) C dL_law_366 rfl ?_
  refine l_iconst (pc := 367) 1 C dL_law_367 (by decide) ?_
  refine l_iadd (pc := 368) C dL_law_368 ?_
  refine l_sld (pc := 369) (5 * t + 1) C (ladd _ 1) (by omega) (by omega) dL_law_369 ?_
  refine l_aload_n (pc := 370) C dL_law_370 rfl ?_
  refine l_iload_n (pc := 371) C dL_law_371 rfl ?_
  refine l_iconst (pc := 372) 2 C dL_law_372 (by decide) ?_
  refine l_iadd (pc := 373) C dL_law_373 ?_
  refine l_sld (pc := 374) (5 * t + 2) C (ladd _ 2) (by omega) (by omega) dL_law_374 ?_
  refine l_aload_n (pc := 375) C dL_law_375 rfl ?_
  refine l_iload_n (pc := 376) C dL_law_376 rfl ?_
  refine l_iconst (pc := 377) 3 C dL_law_377 (by decide) ?_
  refine l_iadd (pc := 378) C dL_law_378 ?_
  refine l_sld (pc := 379) (5 * t + 3) C (ladd _ 3) (by omega) (by omega) dL_law_379 ?_
  refine l_callY (pc := 380) (As := [.int (xs (5 * t + 1)), .int (xs (5 * t + 2)), .int (xs (5 * t + 3))]) C (cMd_name l G (xs (5 * t + 1)) (xs (5 * t + 2)) (xs (5 * t + 3)) My) h2 zc_X10_name rfl (fun _ => rfl) tw_1227 (by decide) (Nat.le_of_ble_eq_true rfl) dL_law_380 ?_ hn
  refine l_icmp_eq (pc := 383) 1091 C dL_law_383 (by decide) ?_
  exact h3 r Mx1 My1 hR
theorem law_bits (C : lCx p s m meth c G b L xs adX adY) (hn : n1 ≤ 600000 ∧ n2 ≤ 7302250) {Rl : zM → zM → Nat → Prop} {t : Nat} {Mx My : zM} (hL : L ≤ 2560) (ht : 5 * t + 5 ≤ L) (hS : zStep Rl (fun M => fNN_bits (xs (5 * t + 1)) (xs (5 * t + 2)) M) (fun M => fMd_bits (xs (5 * t + 1)) (xs (5 * t + 2)) M)) (hRl : Rl Mx My t)
    (h3 : ∀ (r : Int32) (Mx1 My1 : zM), Rl Mx1 My1 (t + 1) → lV p l e s m below meth c G b adX adY n1 n2 1091 [(0, .ref 0), (1, .ref 1), (2, .ref 2), (3, .int (nI (5 * t)))] [] Mx1 My1) : lV p l e s m below meth c G b adX adY n1 n2 388 [(0, .ref 0), (1, .ref 1), (2, .ref 2), (3, .int (nI (5 * t)))] [] Mx My := by
  obtain ⟨r, Mx1, My1, h1, h2, hR⟩ := hS Mx My t (by omega) hRl
  refine l_aload_n (pc := 388) C dL_law_388 rfl ?_
  refine l_aload_n (pc := 389) C dL_law_389 rfl ?_
  refine l_iload_n (pc := 390) C dL_law_390 rfl ?_
  refine l_iconst (pc := 391) 1 C dL_law_391 (by decide) ?_
  refine l_iadd (pc := 392) C dL_law_392 ?_
  refine l_sld (pc := 393) (5 * t + 1) C (ladd _ 1) (by omega) (by omega) dL_law_393 ?_
  refine l_aload_n (pc := 394) C dL_law_394 rfl ?_
  refine l_iload_n (pc := 395) C dL_law_395 rfl ?_
  refine l_iconst (pc := 396) 2 C dL_law_396 (by decide) ?_
  refine l_iadd (pc := 397) C dL_law_397 ?_
  refine l_sld (pc := 398) (5 * t + 2) C (ladd _ 2) (by omega) (by omega) dL_law_398 ?_
  refine l_callX (pc := 399) (As := [.int (xs (5 * t + 1)), .int (xs (5 * t + 2))]) C (cNN_bits l G (xs (5 * t + 1)) (xs (5 * t + 2)) Mx) h1 zc_X9_bits rfl (fun _ => rfl) tw_646 (by decide) (Nat.le_of_ble_eq_true rfl) dL_law_399 ?_ hn
  refine l_aload_n (pc := 402) C dL_law_402 rfl ?_
  refine l_aload_n (pc := 403) C dL_law_403 rfl ?_
  refine l_iload_n (pc := 404) C dL_law_404 rfl ?_
  refine l_iconst (pc := 405) 1 C dL_law_405 (by decide) ?_
  refine l_iadd (pc := 406) C dL_law_406 ?_
  refine l_sld (pc := 407) (5 * t + 1) C (ladd _ 1) (by omega) (by omega) dL_law_407 ?_
  refine l_aload_n (pc := 408) C dL_law_408 rfl ?_
  refine l_iload_n (pc := 409) C dL_law_409 rfl ?_
  refine l_iconst (pc := 410) 2 C dL_law_410 (by decide) ?_
  refine l_iadd (pc := 411) C dL_law_411 ?_
  refine l_sld (pc := 412) (5 * t + 2) C (ladd _ 2) (by omega) (by omega) dL_law_412 ?_
  refine l_callY (pc := 413) (As := [.int (xs (5 * t + 1)), .int (xs (5 * t + 2))]) C (cMd_bits l G (xs (5 * t + 1)) (xs (5 * t + 2)) My) h2 zc_X10_bits rfl (fun _ => rfl) tw_1264 (by decide) (Nat.le_of_ble_eq_true rfl) dL_law_413 ?_ hn
  refine l_icmp_eq (pc := 416) 1091 C dL_law_416 (by decide) ?_
  exact h3 r Mx1 My1 hR
theorem law_ask (C : lCx p s m meth c G b L xs adX adY) (hn : n1 ≤ 600000 ∧ n2 ≤ 7302250) {Rl : zM → zM → Nat → Prop} {t : Nat} {Mx My : zM} (hL : L ≤ 2560) (ht : 5 * t + 5 ≤ L) (hS : zStep Rl (fun M => fNN_ask (xs (5 * t + 1)) (xs (5 * t + 2)) (xs (5 * t + 3)) M) (fun M => fMd_ask (xs (5 * t + 1)) (xs (5 * t + 2)) (xs (5 * t + 3)) M)) (hRl : Rl Mx My t)
    (h3 : ∀ (r : Int32) (Mx1 My1 : zM), Rl Mx1 My1 (t + 1) → lV p l e s m below meth c G b adX adY n1 n2 1091 [(0, .ref 0), (1, .ref 1), (2, .ref 2), (3, .int (nI (5 * t)))] [] Mx1 My1) : lV p l e s m below meth c G b adX adY n1 n2 421 [(0, .ref 0), (1, .ref 1), (2, .ref 2), (3, .int (nI (5 * t)))] [] Mx My := by
  obtain ⟨r, Mx1, My1, h1, h2, hR⟩ := hS Mx My t (by omega) hRl
  refine l_aload_n (pc := 421) C dL_law_421 rfl ?_
  refine l_aload_n (pc := 422) C dL_law_422 rfl ?_
  refine l_iload_n (pc := 423) C dL_law_423 rfl ?_
  refine l_iconst (pc := 424) 1 C dL_law_424 (by decide) ?_
  refine l_iadd (pc := 425) C dL_law_425 ?_
  refine l_sld (pc := 426) (5 * t + 1) C (ladd _ 1) (by omega) (by omega) dL_law_426 ?_
  refine l_aload_n (pc := 427) C dL_law_427 rfl ?_
  refine l_iload_n (pc := 428) C dL_law_428 rfl ?_
  refine l_iconst (pc := 429) 2 C dL_law_429 (by decide) ?_
  refine l_iadd (pc := 430) C dL_law_430 ?_
  refine l_sld (pc := 431) (5 * t + 2) C (ladd _ 2) (by omega) (by omega) dL_law_431 ?_
  refine l_aload_n (pc := 432) C dL_law_432 rfl ?_
  refine l_iload_n (pc := 433) C dL_law_433 rfl ?_
  refine l_iconst (pc := 434) 3 C dL_law_434 (by decide) ?_
  refine l_iadd (pc := 435) C dL_law_435 ?_
  refine l_sld (pc := 436) (5 * t + 3) C (ladd _ 3) (by omega) (by omega) dL_law_436 ?_
  refine l_callX (pc := 437) (As := [.int (xs (5 * t + 1)), .int (xs (5 * t + 2)), .int (xs (5 * t + 3))]) C (cNN_ask l G (xs (5 * t + 1)) (xs (5 * t + 2)) (xs (5 * t + 3)) Mx) h1 zc_X9_ask rfl (fun _ => rfl) tw_654 (by decide) (Nat.le_of_ble_eq_true rfl) dL_law_437 ?_ hn
  refine l_aload_n (pc := 440) C dL_law_440 rfl ?_
  refine l_aload_n (pc := 441) C dL_law_441 rfl ?_
  refine l_iload_n (pc := 442) C dL_law_442 rfl ?_
  refine l_iconst (pc := 443) 1 C dL_law_443 (by decide) ?_
  refine l_iadd (pc := 444) C dL_law_444 ?_
  refine l_sld (pc := 445) (5 * t + 1) C (ladd _ 1) (by omega) (by omega) dL_law_445 ?_
  refine l_aload_n (pc := 446) C dL_law_446 rfl ?_
  refine l_iload_n (pc := 447) C dL_law_447 rfl ?_
  refine l_iconst (pc := 448) 2 C dL_law_448 (by decide) ?_
  refine l_iadd (pc := 449) C dL_law_449 ?_
  refine l_sld (pc := 450) (5 * t + 2) C (ladd _ 2) (by omega) (by omega) dL_law_450 ?_
  refine l_aload_n (pc := 451) C dL_law_451 rfl ?_
  refine l_iload_n (pc := 452) C dL_law_452 rfl ?_
  refine l_iconst (pc := 453) 3 C dL_law_453 (by decide) ?_
  refine l_iadd (pc := 454) C dL_law_454 ?_
  refine l_sld (pc := 455) (5 * t + 3) C (ladd _ 3) (by omega) (by omega) dL_law_455 ?_
  refine l_callY (pc := 456) (As := [.int (xs (5 * t + 1)), .int (xs (5 * t + 2)), .int (xs (5 * t + 3))]) C (cMd_ask l G (xs (5 * t + 1)) (xs (5 * t + 2)) (xs (5 * t + 3)) My) h2 zc_X10_ask rfl (fun _ => rfl) tw_1273 (by decide) (Nat.le_of_ble_eq_true rfl) dL_law_456 ?_ hn
  refine l_icmp_eq (pc := 459) 1091 C dL_law_459 (by decide) ?_
  exact h3 r Mx1 My1 hR
theorem law_parted (C : lCx p s m meth c G b L xs adX adY) (hn : n1 ≤ 600000 ∧ n2 ≤ 7302250) {Rl : zM → zM → Nat → Prop} {t : Nat} {Mx My : zM} (hL : L ≤ 2560) (ht : 5 * t + 5 ≤ L) (hS : zStep Rl (fun M => fNN_parted (xs (5 * t + 1)) (xs (5 * t + 2)) (xs (5 * t + 3)) M) (fun M => fMd_parted (xs (5 * t + 1)) (xs (5 * t + 2)) (xs (5 * t + 3)) M)) (hRl : Rl Mx My t)
    (h3 : ∀ (r : Int32) (Mx1 My1 : zM), Rl Mx1 My1 (t + 1) → lV p l e s m below meth c G b adX adY n1 n2 1091 [(0, .ref 0), (1, .ref 1), (2, .ref 2), (3, .int (nI (5 * t)))] [] Mx1 My1) : lV p l e s m below meth c G b adX adY n1 n2 464 [(0, .ref 0), (1, .ref 1), (2, .ref 2), (3, .int (nI (5 * t)))] [] Mx My := by
  obtain ⟨r, Mx1, My1, h1, h2, hR⟩ := hS Mx My t (by omega) hRl
  refine l_aload_n (pc := 464) C dL_law_464 rfl ?_
  refine l_aload_n (pc := 465) C dL_law_465 rfl ?_
  refine l_iload_n (pc := 466) C dL_law_466 rfl ?_
  refine l_iconst (pc := 467) 1 C dL_law_467 (by decide) ?_
  refine l_iadd (pc := 468) C dL_law_468 ?_
  refine l_sld (pc := 469) (5 * t + 1) C (ladd _ 1) (by omega) (by omega) dL_law_469 ?_
  refine l_aload_n (pc := 470) C dL_law_470 rfl ?_
  refine l_iload_n (pc := 471) C dL_law_471 rfl ?_
  refine l_iconst (pc := 472) 2 C dL_law_472 (by decide) ?_
  refine l_iadd (pc := 473) C dL_law_473 ?_
  refine l_sld (pc := 474) (5 * t + 2) C (ladd _ 2) (by omega) (by omega) dL_law_474 ?_
  refine l_aload_n (pc := 475) C dL_law_475 rfl ?_
  refine l_iload_n (pc := 476) C dL_law_476 rfl ?_
  refine l_iconst (pc := 477) 3 C dL_law_477 (by decide) ?_
  refine l_iadd (pc := 478) C dL_law_478 ?_
  refine l_sld (pc := 479) (5 * t + 3) C (ladd _ 3) (by omega) (by omega) dL_law_479 ?_
  refine l_callX (pc := 480) (As := [.int (xs (5 * t + 1)), .int (xs (5 * t + 2)), .int (xs (5 * t + 3))]) C (cNN_parted l G (xs (5 * t + 1)) (xs (5 * t + 2)) (xs (5 * t + 3)) Mx) h1 zc_X9_parted rfl (fun _ => rfl) tw_671 (by decide) (Nat.le_of_ble_eq_true rfl) dL_law_480 ?_ hn
  refine l_aload_n (pc := 483) C dL_law_483 rfl ?_
  refine l_aload_n (pc := 484) C dL_law_484 rfl ?_
  refine l_iload_n (pc := 485) C dL_law_485 rfl ?_
  refine l_iconst (pc := 486) 1 C dL_law_486 (by decide) ?_
  refine l_iadd (pc := 487) C dL_law_487 ?_
  refine l_sld (pc := 488) (5 * t + 1) C (ladd _ 1) (by omega) (by omega) dL_law_488 ?_
  refine l_aload_n (pc := 489) C dL_law_489 rfl ?_
  refine l_iload_n (pc := 490) C dL_law_490 rfl ?_
  refine l_iconst (pc := 491) 2 C dL_law_491 (by decide) ?_
  refine l_iadd (pc := 492) C dL_law_492 ?_
  refine l_sld (pc := 493) (5 * t + 2) C (ladd _ 2) (by omega) (by omega) dL_law_493 ?_
  refine l_aload_n (pc := 494) C dL_law_494 rfl ?_
  refine l_iload_n (pc := 495) C dL_law_495 rfl ?_
  refine l_iconst (pc := 496) 3 C dL_law_496 (by decide) ?_
  refine l_iadd (pc := 497) C dL_law_497 ?_
  refine l_sld (pc := 498) (5 * t + 3) C (ladd _ 3) (by omega) (by omega) dL_law_498 ?_
  refine l_callY (pc := 499) (As := [.int (xs (5 * t + 1)), .int (xs (5 * t + 2)), .int (xs (5 * t + 3))]) C (cMd_parted l G (xs (5 * t + 1)) (xs (5 * t + 2)) (xs (5 * t + 3)) My) h2 zc_X10_parted rfl (fun _ => rfl) tw_1281 (by decide) (Nat.le_of_ble_eq_true rfl) dL_law_499 ?_ hn
  refine l_icmp_eq (pc := 502) 1091 C dL_law_502 (by decide) ?_
  exact h3 r Mx1 My1 hR
theorem law_learn (C : lCx p s m meth c G b L xs adX adY) (hn : n1 ≤ 600000 ∧ n2 ≤ 7302250) {Rl : zM → zM → Nat → Prop} {t : Nat} {Mx My : zM} (hL : L ≤ 2560) (ht : 5 * t + 5 ≤ L) (hS : zStep Rl (fun M => fNN_learn (xs (5 * t + 1)) M) (fun M => fMd_learn (xs (5 * t + 1)) M)) (hRl : Rl Mx My t)
    (h3 : ∀ (r : Int32) (Mx1 My1 : zM), Rl Mx1 My1 (t + 1) → lV p l e s m below meth c G b adX adY n1 n2 1091 [(0, .ref 0), (1, .ref 1), (2, .ref 2), (3, .int (nI (5 * t)))] [] Mx1 My1) : lV p l e s m below meth c G b adX adY n1 n2 507 [(0, .ref 0), (1, .ref 1), (2, .ref 2), (3, .int (nI (5 * t)))] [] Mx My := by
  obtain ⟨r, Mx1, My1, h1, h2, hR⟩ := hS Mx My t (by omega) hRl
  refine l_aload_n (pc := 507) C dL_law_507 rfl ?_
  refine l_aload_n (pc := 508) C dL_law_508 rfl ?_
  refine l_iload_n (pc := 509) C dL_law_509 rfl ?_
  refine l_iconst (pc := 510) 1 C dL_law_510 (by decide) ?_
  refine l_iadd (pc := 511) C dL_law_511 ?_
  refine l_sld (pc := 512) (5 * t + 1) C (ladd _ 1) (by omega) (by omega) dL_law_512 ?_
  refine l_callX (pc := 513) (As := [.int (xs (5 * t + 1))]) C (cNN_learn l G (xs (5 * t + 1)) Mx) h1 zc_X9_learn rfl (fun _ => rfl) tw_690 (by decide) (Nat.le_of_ble_eq_true rfl) dL_law_513 ?_ hn
  refine l_aload_n (pc := 516) C dL_law_516 rfl ?_
  refine l_aload_n (pc := 517) C dL_law_517 rfl ?_
  refine l_iload_n (pc := 518) C dL_law_518 rfl ?_
  refine l_iconst (pc := 519) 1 C dL_law_519 (by decide) ?_
  refine l_iadd (pc := 520) C dL_law_520 ?_
  refine l_sld (pc := 521) (5 * t + 1) C (ladd _ 1) (by omega) (by omega) dL_law_521 ?_
  refine l_callY (pc := 522) (As := [.int (xs (5 * t + 1))]) C (cMd_learn l G (xs (5 * t + 1)) My) h2 zc_X10_learn rfl (fun _ => rfl) tw_1292 (by decide) (Nat.le_of_ble_eq_true rfl) dL_law_522 ?_ hn
  refine l_icmp_eq (pc := 525) 1091 C dL_law_525 (by decide) ?_
  exact h3 r Mx1 My1 hR
theorem law_forge (C : lCx p s m meth c G b L xs adX adY) (hn : n1 ≤ 600000 ∧ n2 ≤ 7302250) {Rl : zM → zM → Nat → Prop} {t : Nat} {Mx My : zM} (hL : L ≤ 2560) (ht : 5 * t + 5 ≤ L) (hS : zStep Rl (fun M => fNN_forge (xs (5 * t + 1)) (xs (5 * t + 2)) (xs (5 * t + 3)) (xs (5 * t + 4)) M) (fun M => fMd_forge (xs (5 * t + 1)) (xs (5 * t + 2)) (xs (5 * t + 3)) (xs (5 * t + 4)) M)) (hRl : Rl Mx My t)
    (h3 : ∀ (r : Int32) (Mx1 My1 : zM), Rl Mx1 My1 (t + 1) → lV p l e s m below meth c G b adX adY n1 n2 1091 [(0, .ref 0), (1, .ref 1), (2, .ref 2), (3, .int (nI (5 * t)))] [] Mx1 My1) : lV p l e s m below meth c G b adX adY n1 n2 530 [(0, .ref 0), (1, .ref 1), (2, .ref 2), (3, .int (nI (5 * t)))] [] Mx My := by
  obtain ⟨r, Mx1, My1, h1, h2, hR⟩ := hS Mx My t (by omega) hRl
  refine l_aload_n (pc := 530) C dL_law_530 rfl ?_
  refine l_aload_n (pc := 531) C dL_law_531 rfl ?_
  refine l_iload_n (pc := 532) C dL_law_532 rfl ?_
  refine l_iconst (pc := 533) 1 C dL_law_533 (by decide) ?_
  refine l_iadd (pc := 534) C dL_law_534 ?_
  refine l_sld (pc := 535) (5 * t + 1) C (ladd _ 1) (by omega) (by omega) dL_law_535 ?_
  refine l_aload_n (pc := 536) C dL_law_536 rfl ?_
  refine l_iload_n (pc := 537) C dL_law_537 rfl ?_
  refine l_iconst (pc := 538) 2 C dL_law_538 (by decide) ?_
  refine l_iadd (pc := 539) C dL_law_539 ?_
  refine l_sld (pc := 540) (5 * t + 2) C (ladd _ 2) (by omega) (by omega) dL_law_540 ?_
  refine l_aload_n (pc := 541) C dL_law_541 rfl ?_
  refine l_iload_n (pc := 542) C dL_law_542 rfl ?_
  refine l_iconst (pc := 543) 3 C dL_law_543 (by decide) ?_
  refine l_iadd (pc := 544) C dL_law_544 ?_
  refine l_sld (pc := 545) (5 * t + 3) C (ladd _ 3) (by omega) (by omega) dL_law_545 ?_
  refine l_aload_n (pc := 546) C dL_law_546 rfl ?_
  refine l_iload_n (pc := 547) C dL_law_547 rfl ?_
  refine l_iconst (pc := 548) 4 C dL_law_548 (by decide) ?_
  refine l_iadd (pc := 549) C dL_law_549 ?_
  refine l_sld (pc := 550) (5 * t + 4) C (ladd _ 4) (by omega) (by omega) dL_law_550 ?_
  refine l_callX (pc := 551) (As := [.int (xs (5 * t + 1)), .int (xs (5 * t + 2)), .int (xs (5 * t + 3)), .int (xs (5 * t + 4))]) C (cNN_forge l G (xs (5 * t + 1)) (xs (5 * t + 2)) (xs (5 * t + 3)) (xs (5 * t + 4)) Mx) h1 zc_X9_forge rfl (fun _ => rfl) tw_718 (by decide) (Nat.le_of_ble_eq_true rfl) dL_law_551 ?_ hn
  refine l_aload_n (pc := 554) C dL_law_554 rfl ?_
  refine l_aload_n (pc := 555) C dL_law_555 rfl ?_
  refine l_iload_n (pc := 556) C dL_law_556 rfl ?_
  refine l_iconst (pc := 557) 1 C dL_law_557 (by decide) ?_
  refine l_iadd (pc := 558) C dL_law_558 ?_
  refine l_sld (pc := 559) (5 * t + 1) C (ladd _ 1) (by omega) (by omega) dL_law_559 ?_
  refine l_aload_n (pc := 560) C dL_law_560 rfl ?_
  refine l_iload_n (pc := 561) C dL_law_561 rfl ?_
  refine l_iconst (pc := 562) 2 C dL_law_562 (by decide) ?_
  refine l_iadd (pc := 563) C dL_law_563 ?_
  refine l_sld (pc := 564) (5 * t + 2) C (ladd _ 2) (by omega) (by omega) dL_law_564 ?_
  refine l_aload_n (pc := 565) C dL_law_565 rfl ?_
  refine l_iload_n (pc := 566) C dL_law_566 rfl ?_
  refine l_iconst (pc := 567) 3 C dL_law_567 (by decide) ?_
  refine l_iadd (pc := 568) C dL_law_568 ?_
  refine l_sld (pc := 569) (5 * t + 3) C (ladd _ 3) (by omega) (by omega) dL_law_569 ?_
  refine l_aload_n (pc := 570) C dL_law_570 rfl ?_
  refine l_iload_n (pc := 571) C dL_law_571 rfl ?_
  refine l_iconst (pc := 572) 4 C dL_law_572 (by decide) ?_
  refine l_iadd (pc := 573) C dL_law_573 ?_
  refine l_sld (pc := 574) (5 * t + 4) C (ladd _ 4) (by omega) (by omega) dL_law_574 ?_
  refine l_callY (pc := 575) (As := [.int (xs (5 * t + 1)), .int (xs (5 * t + 2)), .int (xs (5 * t + 3)), .int (xs (5 * t + 4))]) C (cMd_forge l G (xs (5 * t + 1)) (xs (5 * t + 2)) (xs (5 * t + 3)) (xs (5 * t + 4)) My) h2 zc_X10_forge rfl (fun _ => rfl) tw_1316 (by decide) (Nat.le_of_ble_eq_true rfl) dL_law_575 ?_ hn
  refine l_icmp_eq (pc := 578) 1091 C dL_law_578 (by decide) ?_
  exact h3 r Mx1 My1 hR
theorem law_book (C : lCx p s m meth c G b L xs adX adY) (hn : n1 ≤ 600000 ∧ n2 ≤ 7302250) {Rl : zM → zM → Nat → Prop} {t : Nat} {Mx My : zM} (hL : L ≤ 2560) (ht : 5 * t + 5 ≤ L) (hS : zStep Rl (fun M => fNN_book (xs (5 * t + 1)) (xs (5 * t + 2)) (xs (5 * t + 3)) M) (fun M => fMd_book (xs (5 * t + 1)) (xs (5 * t + 2)) (xs (5 * t + 3)) M)) (hRl : Rl Mx My t)
    (h3 : ∀ (r : Int32) (Mx1 My1 : zM), Rl Mx1 My1 (t + 1) → lV p l e s m below meth c G b adX adY n1 n2 1091 [(0, .ref 0), (1, .ref 1), (2, .ref 2), (3, .int (nI (5 * t)))] [] Mx1 My1) : lV p l e s m below meth c G b adX adY n1 n2 583 [(0, .ref 0), (1, .ref 1), (2, .ref 2), (3, .int (nI (5 * t)))] [] Mx My := by
  obtain ⟨r, Mx1, My1, h1, h2, hR⟩ := hS Mx My t (by omega) hRl
  refine l_aload_n (pc := 583) C dL_law_583 rfl ?_
  refine l_aload_n (pc := 584) C dL_law_584 rfl ?_
  refine l_iload_n (pc := 585) C dL_law_585 rfl ?_
  refine l_iconst (pc := 586) 1 C dL_law_586 (by decide) ?_
  refine l_iadd (pc := 587) C dL_law_587 ?_
  refine l_sld (pc := 588) (5 * t + 1) C (ladd _ 1) (by omega) (by omega) dL_law_588 ?_
  refine l_aload_n (pc := 589) C dL_law_589 rfl ?_
  refine l_iload_n (pc := 590) C dL_law_590 rfl ?_
  refine l_iconst (pc := 591) 2 C dL_law_591 (by decide) ?_
  refine l_iadd (pc := 592) C dL_law_592 ?_
  refine l_sld (pc := 593) (5 * t + 2) C (ladd _ 2) (by omega) (by omega) dL_law_593 ?_
  refine l_aload_n (pc := 594) C dL_law_594 rfl ?_
  refine l_iload_n (pc := 595) C dL_law_595 rfl ?_
  refine l_iconst (pc := 596) 3 C dL_law_596 (by decide) ?_
  refine l_iadd (pc := 597) C dL_law_597 ?_
  refine l_sld (pc := 598) (5 * t + 3) C (ladd _ 3) (by omega) (by omega) dL_law_598 ?_
  refine l_callX (pc := 599) (As := [.int (xs (5 * t + 1)), .int (xs (5 * t + 2)), .int (xs (5 * t + 3))]) C (cNN_book l G (xs (5 * t + 1)) (xs (5 * t + 2)) (xs (5 * t + 3)) Mx) h1 zc_X9_book rfl (fun _ => rfl) tw_735 (by decide) (Nat.le_of_ble_eq_true rfl) dL_law_599 ?_ hn
  refine l_aload_n (pc := 602) C dL_law_602 rfl ?_
  refine l_aload_n (pc := 603) C dL_law_603 rfl ?_
  refine l_iload_n (pc := 604) C dL_law_604 rfl ?_
  refine l_iconst (pc := 605) 1 C dL_law_605 (by decide) ?_
  refine l_iadd (pc := 606) C dL_law_606 ?_
  refine l_sld (pc := 607) (5 * t + 1) C (ladd _ 1) (by omega) (by omega) dL_law_607 ?_
  refine l_aload_n (pc := 608) C dL_law_608 rfl ?_
  refine l_iload_n (pc := 609) C dL_law_609 rfl ?_
  refine l_iconst (pc := 610) 2 C dL_law_610 (by decide) ?_
  refine l_iadd (pc := 611) C dL_law_611 ?_
  refine l_sld (pc := 612) (5 * t + 2) C (ladd _ 2) (by omega) (by omega) dL_law_612 ?_
  refine l_aload_n (pc := 613) C dL_law_613 rfl ?_
  refine l_iload_n (pc := 614) C dL_law_614 rfl ?_
  refine l_iconst (pc := 615) 3 C dL_law_615 (by decide) ?_
  refine l_iadd (pc := 616) C dL_law_616 ?_
  refine l_sld (pc := 617) (5 * t + 3) C (ladd _ 3) (by omega) (by omega) dL_law_617 ?_
  refine l_callY (pc := 618) (As := [.int (xs (5 * t + 1)), .int (xs (5 * t + 2)), .int (xs (5 * t + 3))]) C (cMd_book l G (xs (5 * t + 1)) (xs (5 * t + 2)) (xs (5 * t + 3)) My) h2 zc_X10_book rfl (fun _ => rfl) tw_1321 (by decide) (Nat.le_of_ble_eq_true rfl) dL_law_618 ?_ hn
  refine l_icmp_eq (pc := 621) 1091 C dL_law_621 (by decide) ?_
  exact h3 r Mx1 My1 hR
theorem law_answer (C : lCx p s m meth c G b L xs adX adY) (hn : n1 ≤ 600000 ∧ n2 ≤ 7302250) {Rl : zM → zM → Nat → Prop} {t : Nat} {Mx My : zM} (hL : L ≤ 2560) (ht : 5 * t + 5 ≤ L) (hS : zStep Rl (fun M => fNN_answer (xs (5 * t + 1)) (xs (5 * t + 2)) (xs (5 * t + 3)) M) (fun M => fMd_answer (xs (5 * t + 1)) (xs (5 * t + 2)) (xs (5 * t + 3)) M)) (hRl : Rl Mx My t)
    (h3 : ∀ (r : Int32) (Mx1 My1 : zM), Rl Mx1 My1 (t + 1) → lV p l e s m below meth c G b adX adY n1 n2 1091 [(0, .ref 0), (1, .ref 1), (2, .ref 2), (3, .int (nI (5 * t)))] [] Mx1 My1) : lV p l e s m below meth c G b adX adY n1 n2 626 [(0, .ref 0), (1, .ref 1), (2, .ref 2), (3, .int (nI (5 * t)))] [] Mx My := by
  obtain ⟨r, Mx1, My1, h1, h2, hR⟩ := hS Mx My t (by omega) hRl
  refine l_aload_n (pc := 626) C dL_law_626 rfl ?_
  refine l_aload_n (pc := 627) C dL_law_627 rfl ?_
  refine l_iload_n (pc := 628) C dL_law_628 rfl ?_
  refine l_iconst (pc := 629) 1 C dL_law_629 (by decide) ?_
  refine l_iadd (pc := 630) C dL_law_630 ?_
  refine l_sld (pc := 631) (5 * t + 1) C (ladd _ 1) (by omega) (by omega) dL_law_631 ?_
  refine l_aload_n (pc := 632) C dL_law_632 rfl ?_
  refine l_iload_n (pc := 633) C dL_law_633 rfl ?_
  refine l_iconst (pc := 634) 2 C dL_law_634 (by decide) ?_
  refine l_iadd (pc := 635) C dL_law_635 ?_
  refine l_sld (pc := 636) (5 * t + 2) C (ladd _ 2) (by omega) (by omega) dL_law_636 ?_
  refine l_aload_n (pc := 637) C dL_law_637 rfl ?_
  refine l_iload_n (pc := 638) C dL_law_638 rfl ?_
  refine l_iconst (pc := 639) 3 C dL_law_639 (by decide) ?_
  refine l_iadd (pc := 640) C dL_law_640 ?_
  refine l_sld (pc := 641) (5 * t + 3) C (ladd _ 3) (by omega) (by omega) dL_law_641 ?_
  refine l_callX (pc := 642) (As := [.int (xs (5 * t + 1)), .int (xs (5 * t + 2)), .int (xs (5 * t + 3))]) C (cNN_answer l G (xs (5 * t + 1)) (xs (5 * t + 2)) (xs (5 * t + 3)) Mx) h1 zc_X9_answer rfl (fun _ => rfl) tw_739 (by decide) (Nat.le_of_ble_eq_true rfl) dL_law_642 ?_ hn
  refine l_aload_n (pc := 645) C dL_law_645 rfl ?_
  refine l_aload_n (pc := 646) C dL_law_646 rfl ?_
  refine l_iload_n (pc := 647) C dL_law_647 rfl ?_
  refine l_iconst (pc := 648) 1 C dL_law_648 (by decide) ?_
  refine l_iadd (pc := 649) C dL_law_649 ?_
  refine l_sld (pc := 650) (5 * t + 1) C (ladd _ 1) (by omega) (by omega) dL_law_650 ?_
  refine l_aload_n (pc := 651) C dL_law_651 rfl ?_
  refine l_iload_n (pc := 652) C dL_law_652 rfl ?_
  refine l_iconst (pc := 653) 2 C dL_law_653 (by decide) ?_
  refine l_iadd (pc := 654) C dL_law_654 ?_
  refine l_sld (pc := 655) (5 * t + 2) C (ladd _ 2) (by omega) (by omega) dL_law_655 ?_
  refine l_aload_n (pc := 656) C dL_law_656 rfl ?_
  refine l_iload_n (pc := 657) C dL_law_657 rfl ?_
  refine l_iconst (pc := 658) 3 C dL_law_658 (by decide) ?_
  refine l_iadd (pc := 659) C dL_law_659 ?_
  refine l_sld (pc := 660) (5 * t + 3) C (ladd _ 3) (by omega) (by omega) dL_law_660 ?_
  refine l_callY (pc := 661) (As := [.int (xs (5 * t + 1)), .int (xs (5 * t + 2)), .int (xs (5 * t + 3))]) C (cMd_answer l G (xs (5 * t + 1)) (xs (5 * t + 2)) (xs (5 * t + 3)) My) h2 zc_X10_answer rfl (fun _ => rfl) tw_1325 (by decide) (Nat.le_of_ble_eq_true rfl) dL_law_661 ?_ hn
  refine l_icmp_eq (pc := 664) 1091 C dL_law_664 (by decide) ?_
  exact h3 r Mx1 My1 hR
theorem law_stale (C : lCx p s m meth c G b L xs adX adY) (hn : n1 ≤ 600000 ∧ n2 ≤ 7302250) {Rl : zM → zM → Nat → Prop} {t : Nat} {Mx My : zM} (hL : L ≤ 2560) (ht : 5 * t + 5 ≤ L) (hS : zStep Rl (fun M => fNN_stale (xs (5 * t + 1)) M) (fun M => fMd_stale (xs (5 * t + 1)) M)) (hRl : Rl Mx My t)
    (h3 : ∀ (r : Int32) (Mx1 My1 : zM), Rl Mx1 My1 (t + 1) → lV p l e s m below meth c G b adX adY n1 n2 1091 [(0, .ref 0), (1, .ref 1), (2, .ref 2), (3, .int (nI (5 * t)))] [] Mx1 My1) : lV p l e s m below meth c G b adX adY n1 n2 669 [(0, .ref 0), (1, .ref 1), (2, .ref 2), (3, .int (nI (5 * t)))] [] Mx My := by
  obtain ⟨r, Mx1, My1, h1, h2, hR⟩ := hS Mx My t (by omega) hRl
  refine l_aload_n (pc := 669) C dL_law_669 rfl ?_
  refine l_aload_n (pc := 670) C dL_law_670 rfl ?_
  refine l_iload_n (pc := 671) C dL_law_671 rfl ?_
  refine l_iconst (pc := 672) 1 C dL_law_672 (by decide) ?_
  refine l_iadd (pc := 673) C dL_law_673 ?_
  refine l_sld (pc := 674) (5 * t + 1) C (ladd _ 1) (by omega) (by omega) dL_law_674 ?_
  refine l_callX (pc := 675) (As := [.int (xs (5 * t + 1))]) C (cNN_stale l G (xs (5 * t + 1)) Mx) h1 zc_X9_stale rfl (fun _ => rfl) tw_747 (by decide) (Nat.le_of_ble_eq_true rfl) dL_law_675 ?_ hn
  refine l_aload_n (pc := 678) C dL_law_678 rfl ?_
  refine l_aload_n (pc := 679) C dL_law_679 rfl ?_
  refine l_iload_n (pc := 680) C dL_law_680 rfl ?_
  refine l_iconst (pc := 681) 1 C dL_law_681 (by decide) ?_
  refine l_iadd (pc := 682) C dL_law_682 ?_
  refine l_sld (pc := 683) (5 * t + 1) C (ladd _ 1) (by omega) (by omega) dL_law_683 ?_
  refine l_callY (pc := 684) (As := [.int (xs (5 * t + 1))]) C (cMd_stale l G (xs (5 * t + 1)) My) h2 zc_X10_stale rfl (fun _ => rfl) tw_1333 (by decide) (Nat.le_of_ble_eq_true rfl) dL_law_684 ?_ hn
  refine l_icmp_eq (pc := 687) 1091 C dL_law_687 (by decide) ?_
  exact h3 r Mx1 My1 hR
theorem law_damaged (C : lCx p s m meth c G b L xs adX adY) (hn : n1 ≤ 600000 ∧ n2 ≤ 7302250) {Rl : zM → zM → Nat → Prop} {t : Nat} {Mx My : zM} (hL : L ≤ 2560) (ht : 5 * t + 5 ≤ L) (hS : zStep Rl (fun M => fNN_damaged (xs (5 * t + 1)) M) (fun M => fMd_damaged (xs (5 * t + 1)) M)) (hRl : Rl Mx My t)
    (h3 : ∀ (r : Int32) (Mx1 My1 : zM), Rl Mx1 My1 (t + 1) → lV p l e s m below meth c G b adX adY n1 n2 1091 [(0, .ref 0), (1, .ref 1), (2, .ref 2), (3, .int (nI (5 * t)))] [] Mx1 My1) : lV p l e s m below meth c G b adX adY n1 n2 692 [(0, .ref 0), (1, .ref 1), (2, .ref 2), (3, .int (nI (5 * t)))] [] Mx My := by
  obtain ⟨r, Mx1, My1, h1, h2, hR⟩ := hS Mx My t (by omega) hRl
  refine l_aload_n (pc := 692) C dL_law_692 rfl ?_
  refine l_aload_n (pc := 693) C dL_law_693 rfl ?_
  refine l_iload_n (pc := 694) C dL_law_694 rfl ?_
  refine l_iconst (pc := 695) 1 C dL_law_695 (by decide) ?_
  refine l_iadd (pc := 696) C dL_law_696 ?_
  refine l_sld (pc := 697) (5 * t + 1) C (ladd _ 1) (by omega) (by omega) dL_law_697 ?_
  refine l_callX (pc := 698) (As := [.int (xs (5 * t + 1))]) C (cNN_damaged l G (xs (5 * t + 1)) Mx) h1 zc_X9_damaged rfl (fun _ => rfl) tw_751 (by decide) (Nat.le_of_ble_eq_true rfl) dL_law_698 ?_ hn
  refine l_aload_n (pc := 701) C dL_law_701 rfl ?_
  refine l_aload_n (pc := 702) C dL_law_702 rfl ?_
  refine l_iload_n (pc := 703) C dL_law_703 rfl ?_
  refine l_iconst (pc := 704) 1 C dL_law_704 (by decide) ?_
  refine l_iadd (pc := 705) C dL_law_705 ?_
  refine l_sld (pc := 706) (5 * t + 1) C (ladd _ 1) (by omega) (by omega) dL_law_706 ?_
  refine l_callY (pc := 707) (As := [.int (xs (5 * t + 1))]) C (cMd_damaged l G (xs (5 * t + 1)) My) h2 zc_X10_damaged rfl (fun _ => rfl) tw_1337 (by decide) (Nat.le_of_ble_eq_true rfl) dL_law_707 ?_ hn
  refine l_icmp_eq (pc := 710) 1091 C dL_law_710 (by decide) ?_
  exact h3 r Mx1 My1 hR
theorem law_next (C : lCx p s m meth c G b L xs adX adY) (hn : n1 ≤ 600000 ∧ n2 ≤ 7302250) {Rl : zM → zM → Nat → Prop} {t : Nat} {Mx My : zM} (hL : L ≤ 2560) (ht : 5 * t + 5 ≤ L) (hS : zStep Rl (fun M => fNN_next (xs (5 * t + 1)) (xs (5 * t + 2)) M) (fun M => fMd_next (xs (5 * t + 1)) (xs (5 * t + 2)) M)) (hRl : Rl Mx My t)
    (h3 : ∀ (r : Int32) (Mx1 My1 : zM), Rl Mx1 My1 (t + 1) → lV p l e s m below meth c G b adX adY n1 n2 1091 [(0, .ref 0), (1, .ref 1), (2, .ref 2), (3, .int (nI (5 * t)))] [] Mx1 My1) : lV p l e s m below meth c G b adX adY n1 n2 715 [(0, .ref 0), (1, .ref 1), (2, .ref 2), (3, .int (nI (5 * t)))] [] Mx My := by
  obtain ⟨r, Mx1, My1, h1, h2, hR⟩ := hS Mx My t (by omega) hRl
  refine l_aload_n (pc := 715) C dL_law_715 rfl ?_
  refine l_aload_n (pc := 716) C dL_law_716 rfl ?_
  refine l_iload_n (pc := 717) C dL_law_717 rfl ?_
  refine l_iconst (pc := 718) 1 C dL_law_718 (by decide) ?_
  refine l_iadd (pc := 719) C dL_law_719 ?_
  refine l_sld (pc := 720) (5 * t + 1) C (ladd _ 1) (by omega) (by omega) dL_law_720 ?_
  refine l_aload_n (pc := 721) C dL_law_721 rfl ?_
  refine l_iload_n (pc := 722) C dL_law_722 rfl ?_
  refine l_iconst (pc := 723) 2 C dL_law_723 (by decide) ?_
  refine l_iadd (pc := 724) C dL_law_724 ?_
  refine l_sld (pc := 725) (5 * t + 2) C (ladd _ 2) (by omega) (by omega) dL_law_725 ?_
  refine l_callX (pc := 726) (As := [.int (xs (5 * t + 1)), .int (xs (5 * t + 2))]) C (cNN_next l G (xs (5 * t + 1)) (xs (5 * t + 2)) Mx) h1 zc_X9_next rfl (fun _ => rfl) tw_760 (by decide) (Nat.le_of_ble_eq_true rfl) dL_law_726 ?_ hn
  refine l_aload_n (pc := 729) C dL_law_729 rfl ?_
  refine l_aload_n (pc := 730) C dL_law_730 rfl ?_
  refine l_iload_n (pc := 731) C dL_law_731 rfl ?_
  refine l_iconst (pc := 732) 1 C dL_law_732 (by decide) ?_
  refine l_iadd (pc := 733) C dL_law_733 ?_
  refine l_sld (pc := 734) (5 * t + 1) C (ladd _ 1) (by omega) (by omega) dL_law_734 ?_
  refine l_aload_n (pc := 735) C dL_law_735 rfl ?_
  refine l_iload_n (pc := 736) C dL_law_736 rfl ?_
  refine l_iconst (pc := 737) 2 C dL_law_737 (by decide) ?_
  refine l_iadd (pc := 738) C dL_law_738 ?_
  refine l_sld (pc := 739) (5 * t + 2) C (ladd _ 2) (by omega) (by omega) dL_law_739 ?_
  refine l_callY (pc := 740) (As := [.int (xs (5 * t + 1)), .int (xs (5 * t + 2))]) C (cMd_next l G (xs (5 * t + 1)) (xs (5 * t + 2)) My) h2 zc_X10_next rfl (fun _ => rfl) tw_1341 (by decide) (Nat.le_of_ble_eq_true rfl) dL_law_740 ?_ hn
  refine l_icmp_eq (pc := 743) 1091 C dL_law_743 (by decide) ?_
  exact h3 r Mx1 My1 hR
theorem law_goes (C : lCx p s m meth c G b L xs adX adY) (hn : n1 ≤ 600000 ∧ n2 ≤ 7302250) {Rl : zM → zM → Nat → Prop} {t : Nat} {Mx My : zM} (hL : L ≤ 2560) (ht : 5 * t + 5 ≤ L) (hS : zStep Rl (fun M => fNN_goes (xs (5 * t + 1)) (xs (5 * t + 2)) M) (fun M => fMd_goes (xs (5 * t + 1)) (xs (5 * t + 2)) M)) (hRl : Rl Mx My t)
    (h3 : ∀ (r : Int32) (Mx1 My1 : zM), Rl Mx1 My1 (t + 1) → lV p l e s m below meth c G b adX adY n1 n2 1091 [(0, .ref 0), (1, .ref 1), (2, .ref 2), (3, .int (nI (5 * t)))] [] Mx1 My1) : lV p l e s m below meth c G b adX adY n1 n2 748 [(0, .ref 0), (1, .ref 1), (2, .ref 2), (3, .int (nI (5 * t)))] [] Mx My := by
  obtain ⟨r, Mx1, My1, h1, h2, hR⟩ := hS Mx My t (by omega) hRl
  refine l_aload_n (pc := 748) C dL_law_748 rfl ?_
  refine l_aload_n (pc := 749) C dL_law_749 rfl ?_
  refine l_iload_n (pc := 750) C dL_law_750 rfl ?_
  refine l_iconst (pc := 751) 1 C dL_law_751 (by decide) ?_
  refine l_iadd (pc := 752) C dL_law_752 ?_
  refine l_sld (pc := 753) (5 * t + 1) C (ladd _ 1) (by omega) (by omega) dL_law_753 ?_
  refine l_aload_n (pc := 754) C dL_law_754 rfl ?_
  refine l_iload_n (pc := 755) C dL_law_755 rfl ?_
  refine l_iconst (pc := 756) 2 C dL_law_756 (by decide) ?_
  refine l_iadd (pc := 757) C dL_law_757 ?_
  refine l_sld (pc := 758) (5 * t + 2) C (ladd _ 2) (by omega) (by omega) dL_law_758 ?_
  refine l_callX (pc := 759) (As := [.int (xs (5 * t + 1)), .int (xs (5 * t + 2))]) C (cNN_goes l G (xs (5 * t + 1)) (xs (5 * t + 2)) Mx) h1 zc_X9_goes rfl (fun _ => rfl) tw_773 (by decide) (Nat.le_of_ble_eq_true rfl) dL_law_759 ?_ hn
  refine l_aload_n (pc := 762) C dL_law_762 rfl ?_
  refine l_aload_n (pc := 763) C dL_law_763 rfl ?_
  refine l_iload_n (pc := 764) C dL_law_764 rfl ?_
  refine l_iconst (pc := 765) 1 C dL_law_765 (by decide) ?_
  refine l_iadd (pc := 766) C dL_law_766 ?_
  refine l_sld (pc := 767) (5 * t + 1) C (ladd _ 1) (by omega) (by omega) dL_law_767 ?_
  refine l_aload_n (pc := 768) C dL_law_768 rfl ?_
  refine l_iload_n (pc := 769) C dL_law_769 rfl ?_
  refine l_iconst (pc := 770) 2 C dL_law_770 (by decide) ?_
  refine l_iadd (pc := 771) C dL_law_771 ?_
  refine l_sld (pc := 772) (5 * t + 2) C (ladd _ 2) (by omega) (by omega) dL_law_772 ?_
  refine l_callY (pc := 773) (As := [.int (xs (5 * t + 1)), .int (xs (5 * t + 2))]) C (cMd_goes l G (xs (5 * t + 1)) (xs (5 * t + 2)) My) h2 zc_X10_goes rfl (fun _ => rfl) tw_1349 (by decide) (Nat.le_of_ble_eq_true rfl) dL_law_773 ?_ hn
  refine l_icmp_eq (pc := 776) 1091 C dL_law_776 (by decide) ?_
  exact h3 r Mx1 My1 hR
theorem law_stretch (C : lCx p s m meth c G b L xs adX adY) (hn : n1 ≤ 600000 ∧ n2 ≤ 7302250) {Rl : zM → zM → Nat → Prop} {t : Nat} {Mx My : zM} (hL : L ≤ 2560) (ht : 5 * t + 5 ≤ L) (hS : zStep Rl (fun M => fNN_stretch (xs (5 * t + 1)) M) (fun M => fMd_stretch (xs (5 * t + 1)) M)) (hRl : Rl Mx My t)
    (h3 : ∀ (r : Int32) (Mx1 My1 : zM), Rl Mx1 My1 (t + 1) → lV p l e s m below meth c G b adX adY n1 n2 1091 [(0, .ref 0), (1, .ref 1), (2, .ref 2), (3, .int (nI (5 * t)))] [] Mx1 My1) : lV p l e s m below meth c G b adX adY n1 n2 781 [(0, .ref 0), (1, .ref 1), (2, .ref 2), (3, .int (nI (5 * t)))] [] Mx My := by
  obtain ⟨r, Mx1, My1, h1, h2, hR⟩ := hS Mx My t (by omega) hRl
  refine l_aload_n (pc := 781) C dL_law_781 rfl ?_
  refine l_aload_n (pc := 782) C dL_law_782 rfl ?_
  refine l_iload_n (pc := 783) C dL_law_783 rfl ?_
  refine l_iconst (pc := 784) 1 C dL_law_784 (by decide) ?_
  refine l_iadd (pc := 785) C dL_law_785 ?_
  refine l_sld (pc := 786) (5 * t + 1) C (ladd _ 1) (by omega) (by omega) dL_law_786 ?_
  refine l_callX (pc := 787) (As := [.int (xs (5 * t + 1))]) C (cNN_stretch l G (xs (5 * t + 1)) Mx) h1 zc_X9_stretch rfl (fun _ => rfl) tw_782 (by decide) (Nat.le_of_ble_eq_true rfl) dL_law_787 ?_ hn
  refine l_aload_n (pc := 790) C dL_law_790 rfl ?_
  refine l_aload_n (pc := 791) C dL_law_791 rfl ?_
  refine l_iload_n (pc := 792) C dL_law_792 rfl ?_
  refine l_iconst (pc := 793) 1 C dL_law_793 (by decide) ?_
  refine l_iadd (pc := 794) C dL_law_794 ?_
  refine l_sld (pc := 795) (5 * t + 1) C (ladd _ 1) (by omega) (by omega) dL_law_795 ?_
  refine l_callY (pc := 796) (As := [.int (xs (5 * t + 1))]) C (cMd_stretch l G (xs (5 * t + 1)) My) h2 zc_X10_stretch rfl (fun _ => rfl) tw_1357 (by decide) (Nat.le_of_ble_eq_true rfl) dL_law_796 ?_ hn
  refine l_icmp_eq (pc := 799) 1091 C dL_law_799 (by decide) ?_
  exact h3 r Mx1 My1 hR
theorem law_cut (C : lCx p s m meth c G b L xs adX adY) (hn : n1 ≤ 600000 ∧ n2 ≤ 7302250) {Rl : zM → zM → Nat → Prop} {t : Nat} {Mx My : zM} (hL : L ≤ 2560) (ht : 5 * t + 5 ≤ L) (hS : zStep Rl (fun M => fNN_cut (xs (5 * t + 1)) (xs (5 * t + 2)) M) (fun M => fMd_cut (xs (5 * t + 1)) (xs (5 * t + 2)) M)) (hRl : Rl Mx My t)
    (h3 : ∀ (r : Int32) (Mx1 My1 : zM), Rl Mx1 My1 (t + 1) → lV p l e s m below meth c G b adX adY n1 n2 1091 [(0, .ref 0), (1, .ref 1), (2, .ref 2), (3, .int (nI (5 * t)))] [] Mx1 My1) : lV p l e s m below meth c G b adX adY n1 n2 804 [(0, .ref 0), (1, .ref 1), (2, .ref 2), (3, .int (nI (5 * t)))] [] Mx My := by
  obtain ⟨r, Mx1, My1, h1, h2, hR⟩ := hS Mx My t (by omega) hRl
  refine l_aload_n (pc := 804) C dL_law_804 rfl ?_
  refine l_aload_n (pc := 805) C dL_law_805 rfl ?_
  refine l_iload_n (pc := 806) C dL_law_806 rfl ?_
  refine l_iconst (pc := 807) 1 C dL_law_807 (by decide) ?_
  refine l_iadd (pc := 808) C dL_law_808 ?_
  refine l_sld (pc := 809) (5 * t + 1) C (ladd _ 1) (by omega) (by omega) dL_law_809 ?_
  refine l_aload_n (pc := 810) C dL_law_810 rfl ?_
  refine l_iload_n (pc := 811) C dL_law_811 rfl ?_
  refine l_iconst (pc := 812) 2 C dL_law_812 (by decide) ?_
  refine l_iadd (pc := 813) C dL_law_813 ?_
  refine l_sld (pc := 814) (5 * t + 2) C (ladd _ 2) (by omega) (by omega) dL_law_814 ?_
  refine l_callX (pc := 815) (As := [.int (xs (5 * t + 1)), .int (xs (5 * t + 2))]) C (cNN_cut l G (xs (5 * t + 1)) (xs (5 * t + 2)) Mx) h1 zc_X9_cut rfl (fun _ => rfl) tw_805 (by decide) (Nat.le_of_ble_eq_true rfl) dL_law_815 ?_ hn
  refine l_aload_n (pc := 818) C dL_law_818 rfl ?_
  refine l_aload_n (pc := 819) C dL_law_819 rfl ?_
  refine l_iload_n (pc := 820) C dL_law_820 rfl ?_
  refine l_iconst (pc := 821) 1 C dL_law_821 (by decide) ?_
  refine l_iadd (pc := 822) C dL_law_822 ?_
  refine l_sld (pc := 823) (5 * t + 1) C (ladd _ 1) (by omega) (by omega) dL_law_823 ?_
  refine l_aload_n (pc := 824) C dL_law_824 rfl ?_
  refine l_iload_n (pc := 825) C dL_law_825 rfl ?_
  refine l_iconst (pc := 826) 2 C dL_law_826 (by decide) ?_
  refine l_iadd (pc := 827) C dL_law_827 ?_
  refine l_sld (pc := 828) (5 * t + 2) C (ladd _ 2) (by omega) (by omega) dL_law_828 ?_
  refine l_callY (pc := 829) (As := [.int (xs (5 * t + 1)), .int (xs (5 * t + 2))]) C (cMd_cut l G (xs (5 * t + 1)) (xs (5 * t + 2)) My) h2 zc_X10_cut rfl (fun _ => rfl) tw_1365 (by decide) (Nat.le_of_ble_eq_true rfl) dL_law_829 ?_ hn
  refine l_icmp_eq (pc := 832) 1091 C dL_law_832 (by decide) ?_
  exact h3 r Mx1 My1 hR
theorem law_ways (C : lCx p s m meth c G b L xs adX adY) (hn : n1 ≤ 600000 ∧ n2 ≤ 7302250) {Rl : zM → zM → Nat → Prop} {t : Nat} {Mx My : zM} (hL : L ≤ 2560) (ht : 5 * t + 5 ≤ L) (hS : zStep Rl (fun M => fNN_ways (xs (5 * t + 1)) (xs (5 * t + 2)) M) (fun M => fMd_ways (xs (5 * t + 1)) (xs (5 * t + 2)) M)) (hRl : Rl Mx My t)
    (h3 : ∀ (r : Int32) (Mx1 My1 : zM), Rl Mx1 My1 (t + 1) → lV p l e s m below meth c G b adX adY n1 n2 1091 [(0, .ref 0), (1, .ref 1), (2, .ref 2), (3, .int (nI (5 * t)))] [] Mx1 My1) : lV p l e s m below meth c G b adX adY n1 n2 837 [(0, .ref 0), (1, .ref 1), (2, .ref 2), (3, .int (nI (5 * t)))] [] Mx My := by
  obtain ⟨r, Mx1, My1, h1, h2, hR⟩ := hS Mx My t (by omega) hRl
  refine l_aload_n (pc := 837) C dL_law_837 rfl ?_
  refine l_aload_n (pc := 838) C dL_law_838 rfl ?_
  refine l_iload_n (pc := 839) C dL_law_839 rfl ?_
  refine l_iconst (pc := 840) 1 C dL_law_840 (by decide) ?_
  refine l_iadd (pc := 841) C dL_law_841 ?_
  refine l_sld (pc := 842) (5 * t + 1) C (ladd _ 1) (by omega) (by omega) dL_law_842 ?_
  refine l_aload_n (pc := 843) C dL_law_843 rfl ?_
  refine l_iload_n (pc := 844) C dL_law_844 rfl ?_
  refine l_iconst (pc := 845) 2 C dL_law_845 (by decide) ?_
  refine l_iadd (pc := 846) C dL_law_846 ?_
  refine l_sld (pc := 847) (5 * t + 2) C (ladd _ 2) (by omega) (by omega) dL_law_847 ?_
  refine l_callX (pc := 848) (As := [.int (xs (5 * t + 1)), .int (xs (5 * t + 2))]) C (cNN_ways l G (xs (5 * t + 1)) (xs (5 * t + 2)) Mx) h1 zc_X9_ways rfl (fun _ => rfl) tw_817 (by decide) (Nat.le_of_ble_eq_true rfl) dL_law_848 ?_ hn
  refine l_aload_n (pc := 851) C dL_law_851 rfl ?_
  refine l_aload_n (pc := 852) C dL_law_852 rfl ?_
  refine l_iload_n (pc := 853) C dL_law_853 rfl ?_
  refine l_iconst (pc := 854) 1 C dL_law_854 (by decide) ?_
  refine l_iadd (pc := 855) C dL_law_855 ?_
  refine l_sld (pc := 856) (5 * t + 1) C (ladd _ 1) (by omega) (by omega) dL_law_856 ?_
  refine l_aload_n (pc := 857) C dL_law_857 rfl ?_
  refine l_iload_n (pc := 858) C dL_law_858 rfl ?_
  refine l_iconst (pc := 859) 2 C dL_law_859 (by decide) ?_
  refine l_iadd (pc := 860) C dL_law_860 ?_
  refine l_sld (pc := 861) (5 * t + 2) C (ladd _ 2) (by omega) (by omega) dL_law_861 ?_
  refine l_callY (pc := 862) (As := [.int (xs (5 * t + 1)), .int (xs (5 * t + 2))]) C (cMd_ways l G (xs (5 * t + 1)) (xs (5 * t + 2)) My) h2 zc_X10_ways rfl (fun _ => rfl) tw_1369 (by decide) (Nat.le_of_ble_eq_true rfl) dL_law_862 ?_ hn
  refine l_icmp_eq (pc := 865) 1091 C dL_law_865 (by decide) ?_
  exact h3 r Mx1 My1 hR
theorem law_holds (C : lCx p s m meth c G b L xs adX adY) (hn : n1 ≤ 600000 ∧ n2 ≤ 7302250) {Rl : zM → zM → Nat → Prop} {t : Nat} {Mx My : zM} (hL : L ≤ 2560) (ht : 5 * t + 5 ≤ L) (hS : zStep Rl (fun M => fNN_holds (xs (5 * t + 1)) (xs (5 * t + 2)) (xs (5 * t + 3)) (xs (5 * t + 4)) M) (fun M => fMd_holds (xs (5 * t + 1)) (xs (5 * t + 2)) (xs (5 * t + 3)) (xs (5 * t + 4)) M)) (hRl : Rl Mx My t)
    (h3 : ∀ (r : Int32) (Mx1 My1 : zM), Rl Mx1 My1 (t + 1) → lV p l e s m below meth c G b adX adY n1 n2 1091 [(0, .ref 0), (1, .ref 1), (2, .ref 2), (3, .int (nI (5 * t)))] [] Mx1 My1) : lV p l e s m below meth c G b adX adY n1 n2 870 [(0, .ref 0), (1, .ref 1), (2, .ref 2), (3, .int (nI (5 * t)))] [] Mx My := by
  obtain ⟨r, Mx1, My1, h1, h2, hR⟩ := hS Mx My t (by omega) hRl
  refine l_aload_n (pc := 870) C dL_law_870 rfl ?_
  refine l_aload_n (pc := 871) C dL_law_871 rfl ?_
  refine l_iload_n (pc := 872) C dL_law_872 rfl ?_
  refine l_iconst (pc := 873) 1 C dL_law_873 (by decide) ?_
  refine l_iadd (pc := 874) C dL_law_874 ?_
  refine l_sld (pc := 875) (5 * t + 1) C (ladd _ 1) (by omega) (by omega) dL_law_875 ?_
  refine l_aload_n (pc := 876) C dL_law_876 rfl ?_
  refine l_iload_n (pc := 877) C dL_law_877 rfl ?_
  refine l_iconst (pc := 878) 2 C dL_law_878 (by decide) ?_
  refine l_iadd (pc := 879) C dL_law_879 ?_
  refine l_sld (pc := 880) (5 * t + 2) C (ladd _ 2) (by omega) (by omega) dL_law_880 ?_
  refine l_aload_n (pc := 881) C dL_law_881 rfl ?_
  refine l_iload_n (pc := 882) C dL_law_882 rfl ?_
  refine l_iconst (pc := 883) 3 C dL_law_883 (by decide) ?_
  refine l_iadd (pc := 884) C dL_law_884 ?_
  refine l_sld (pc := 885) (5 * t + 3) C (ladd _ 3) (by omega) (by omega) dL_law_885 ?_
  refine l_aload_n (pc := 886) C dL_law_886 rfl ?_
  refine l_iload_n (pc := 887) C dL_law_887 rfl ?_
  refine l_iconst (pc := 888) 4 C dL_law_888 (by decide) ?_
  refine l_iadd (pc := 889) C dL_law_889 ?_
  refine l_sld (pc := 890) (5 * t + 4) C (ladd _ 4) (by omega) (by omega) dL_law_890 ?_
  refine l_callX (pc := 891) (As := [.int (xs (5 * t + 1)), .int (xs (5 * t + 2)), .int (xs (5 * t + 3)), .int (xs (5 * t + 4))]) C (cNN_holds l G (xs (5 * t + 1)) (xs (5 * t + 2)) (xs (5 * t + 3)) (xs (5 * t + 4)) Mx) h1 zc_X9_holds rfl (fun _ => rfl) tw_836 (by decide) (Nat.le_of_ble_eq_true rfl) dL_law_891 ?_ hn
  refine l_aload_n (pc := 894) C dL_law_894 rfl ?_
  refine l_aload_n (pc := 895) C dL_law_895 rfl ?_
  refine l_iload_n (pc := 896) C dL_law_896 rfl ?_
  refine l_iconst (pc := 897) 1 C dL_law_897 (by decide) ?_
  refine l_iadd (pc := 898) C dL_law_898 ?_
  refine l_sld (pc := 899) (5 * t + 1) C (ladd _ 1) (by omega) (by omega) dL_law_899 ?_
  refine l_aload_n (pc := 900) C dL_law_900 rfl ?_
  refine l_iload_n (pc := 901) C dL_law_901 rfl ?_
  refine l_iconst (pc := 902) 2 C dL_law_902 (by decide) ?_
  refine l_iadd (pc := 903) C dL_law_903 ?_
  refine l_sld (pc := 904) (5 * t + 2) C (ladd _ 2) (by omega) (by omega) dL_law_904 ?_
  refine l_aload_n (pc := 905) C dL_law_905 rfl ?_
  refine l_iload_n (pc := 906) C dL_law_906 rfl ?_
  refine l_iconst (pc := 907) 3 C dL_law_907 (by decide) ?_
  refine l_iadd (pc := 908) C dL_law_908 ?_
  refine l_sld (pc := 909) (5 * t + 3) C (ladd _ 3) (by omega) (by omega) dL_law_909 ?_
  refine l_aload_n (pc := 910) C dL_law_910 rfl ?_
  refine l_iload_n (pc := 911) C dL_law_911 rfl ?_
  refine l_iconst (pc := 912) 4 C dL_law_912 (by decide) ?_
  refine l_iadd (pc := 913) C dL_law_913 ?_
  refine l_sld (pc := 914) (5 * t + 4) C (ladd _ 4) (by omega) (by omega) dL_law_914 ?_
  refine l_callY (pc := 915) (As := [.int (xs (5 * t + 1)), .int (xs (5 * t + 2)), .int (xs (5 * t + 3)), .int (xs (5 * t + 4))]) C (cMd_holds l G (xs (5 * t + 1)) (xs (5 * t + 2)) (xs (5 * t + 3)) (xs (5 * t + 4)) My) h2 zc_X10_holds rfl (fun _ => rfl) tw_1377 (by decide) (Nat.le_of_ble_eq_true rfl) dL_law_915 ?_ hn
  refine l_icmp_eq (pc := 918) 1091 C dL_law_918 (by decide) ?_
  exact h3 r Mx1 My1 hR
theorem law_universal (C : lCx p s m meth c G b L xs adX adY) (hn : n1 ≤ 600000 ∧ n2 ≤ 7302250) {Rl : zM → zM → Nat → Prop} {t : Nat} {Mx My : zM} (hL : L ≤ 2560) (ht : 5 * t + 5 ≤ L) (hS : zStep Rl (fun M => fNN_universal (xs (5 * t + 1)) (xs (5 * t + 2)) (xs (5 * t + 3)) M) (fun M => fMd_universal (xs (5 * t + 1)) (xs (5 * t + 2)) (xs (5 * t + 3)) M)) (hRl : Rl Mx My t)
    (h3 : ∀ (r : Int32) (Mx1 My1 : zM), Rl Mx1 My1 (t + 1) → lV p l e s m below meth c G b adX adY n1 n2 1091 [(0, .ref 0), (1, .ref 1), (2, .ref 2), (3, .int (nI (5 * t)))] [] Mx1 My1) : lV p l e s m below meth c G b adX adY n1 n2 923 [(0, .ref 0), (1, .ref 1), (2, .ref 2), (3, .int (nI (5 * t)))] [] Mx My := by
  obtain ⟨r, Mx1, My1, h1, h2, hR⟩ := hS Mx My t (by omega) hRl
  refine l_aload_n (pc := 923) C dL_law_923 rfl ?_
  refine l_aload_n (pc := 924) C dL_law_924 rfl ?_
  refine l_iload_n (pc := 925) C dL_law_925 rfl ?_
  refine l_iconst (pc := 926) 1 C dL_law_926 (by decide) ?_
  refine l_iadd (pc := 927) C dL_law_927 ?_
  refine l_sld (pc := 928) (5 * t + 1) C (ladd _ 1) (by omega) (by omega) dL_law_928 ?_
  refine l_aload_n (pc := 929) C dL_law_929 rfl ?_
  refine l_iload_n (pc := 930) C dL_law_930 rfl ?_
  refine l_iconst (pc := 931) 2 C dL_law_931 (by decide) ?_
  refine l_iadd (pc := 932) C dL_law_932 ?_
  refine l_sld (pc := 933) (5 * t + 2) C (ladd _ 2) (by omega) (by omega) dL_law_933 ?_
  refine l_aload_n (pc := 934) C dL_law_934 rfl ?_
  refine l_iload_n (pc := 935) C dL_law_935 rfl ?_
  refine l_iconst (pc := 936) 3 C dL_law_936 (by decide) ?_
  refine l_iadd (pc := 937) C dL_law_937 ?_
  refine l_sld (pc := 938) (5 * t + 3) C (ladd _ 3) (by omega) (by omega) dL_law_938 ?_
  refine l_callX (pc := 939) (As := [.int (xs (5 * t + 1)), .int (xs (5 * t + 2)), .int (xs (5 * t + 3))]) C (cNN_universal l G (xs (5 * t + 1)) (xs (5 * t + 2)) (xs (5 * t + 3)) Mx) h1 zc_X9_universal rfl (fun _ => rfl) tw_863 (by decide) (Nat.le_of_ble_eq_true rfl) dL_law_939 ?_ hn
  refine l_aload_n (pc := 942) C dL_law_942 rfl ?_
  refine l_aload_n (pc := 943) C dL_law_943 rfl ?_
  refine l_iload_n (pc := 944) C dL_law_944 rfl ?_
  refine l_iconst (pc := 945) 1 C dL_law_945 (by decide) ?_
  refine l_iadd (pc := 946) C dL_law_946 ?_
  refine l_sld (pc := 947) (5 * t + 1) C (ladd _ 1) (by omega) (by omega) dL_law_947 ?_
  refine l_aload_n (pc := 948) C dL_law_948 rfl ?_
  refine l_iload_n (pc := 949) C dL_law_949 rfl ?_
  refine l_iconst (pc := 950) 2 C dL_law_950 (by decide) ?_
  refine l_iadd (pc := 951) C dL_law_951 ?_
  refine l_sld (pc := 952) (5 * t + 2) C (ladd _ 2) (by omega) (by omega) dL_law_952 ?_
  refine l_aload_n (pc := 953) C dL_law_953 rfl ?_
  refine l_iload_n (pc := 954) C dL_law_954 rfl ?_
  refine l_iconst (pc := 955) 3 C dL_law_955 (by decide) ?_
  refine l_iadd (pc := 956) C dL_law_956 ?_
  refine l_sld (pc := 957) (5 * t + 3) C (ladd _ 3) (by omega) (by omega) dL_law_957 ?_
  refine l_callY (pc := 958) (As := [.int (xs (5 * t + 1)), .int (xs (5 * t + 2)), .int (xs (5 * t + 3))]) C (cMd_universal l G (xs (5 * t + 1)) (xs (5 * t + 2)) (xs (5 * t + 3)) My) h2 zc_X10_universal rfl (fun _ => rfl) tw_1396 (by decide) (Nat.le_of_ble_eq_true rfl) dL_law_958 ?_ hn
  refine l_icmp_eq (pc := 961) 1091 C dL_law_961 (by decide) ?_
  exact h3 r Mx1 My1 hR
theorem law_small (C : lCx p s m meth c G b L xs adX adY) (hn : n1 ≤ 600000 ∧ n2 ≤ 7302250) {Rl : zM → zM → Nat → Prop} {t : Nat} {Mx My : zM} (hL : L ≤ 2560) (ht : 5 * t + 5 ≤ L) (hS : zStep Rl (fun M => fNN_small  M) (fun M => fMd_small  M)) (hRl : Rl Mx My t)
    (h3 : ∀ (r : Int32) (Mx1 My1 : zM), Rl Mx1 My1 (t + 1) → lV p l e s m below meth c G b adX adY n1 n2 1091 [(0, .ref 0), (1, .ref 1), (2, .ref 2), (3, .int (nI (5 * t)))] [] Mx1 My1) : lV p l e s m below meth c G b adX adY n1 n2 966 [(0, .ref 0), (1, .ref 1), (2, .ref 2), (3, .int (nI (5 * t)))] [] Mx My := by
  obtain ⟨r, Mx1, My1, h1, h2, hR⟩ := hS Mx My t (by omega) hRl
  refine l_aload_n (pc := 966) C dL_law_966 rfl ?_
  refine l_callX (pc := 967) (As := []) C (cNN_small l G  Mx) h1 zc_X9_small rfl (fun _ => rfl) tw_887 (by decide) (Nat.le_of_ble_eq_true rfl) dL_law_967 ?_ hn
  refine l_aload_n (pc := 970) C dL_law_970 rfl ?_
  refine l_callY (pc := 971) (As := []) C (cMd_small l G  My) h2 zc_X10_small rfl (fun _ => rfl) tw_1404 (by decide) (Nat.le_of_ble_eq_true rfl) dL_law_971 ?_ hn
  refine l_icmp_eq (pc := 974) 1091 C dL_law_974 (by decide) ?_
  exact h3 r Mx1 My1 hR
theorem law_feed (C : lCx p s m meth c G b L xs adX adY) (hn : n1 ≤ 600000 ∧ n2 ≤ 7302250) {Rl : zM → zM → Nat → Prop} {t : Nat} {Mx My : zM} (hL : L ≤ 2560) (ht : 5 * t + 5 ≤ L) (hS : zStep Rl (fun M => fNN_feed (xs (5 * t + 1)) ((zlshl ((xs (5 * t + 2)).toInt64) 32) ||| (((xs (5 * t + 3)).toInt64) &&& 4294967295)) M) (fun M => fMd_feed (xs (5 * t + 1)) ((zlshl ((xs (5 * t + 2)).toInt64) 32) ||| (((xs (5 * t + 3)).toInt64) &&& 4294967295)) M)) (hRl : Rl Mx My t)
    (h3 : ∀ (r : Int32) (Mx1 My1 : zM), Rl Mx1 My1 (t + 1) → lV p l e s m below meth c G b adX adY n1 n2 1091 [(0, .ref 0), (1, .ref 1), (2, .ref 2), (3, .int (nI (5 * t)))] [] Mx1 My1) : lV p l e s m below meth c G b adX adY n1 n2 979 [(0, .ref 0), (1, .ref 1), (2, .ref 2), (3, .int (nI (5 * t)))] [] Mx My := by
  obtain ⟨r, Mx1, My1, h1, h2, hR⟩ := hS Mx My t (by omega) hRl
  refine l_aload_n (pc := 979) C dL_law_979 rfl ?_
  refine l_aload_n (pc := 980) C dL_law_980 rfl ?_
  refine l_iload_n (pc := 981) C dL_law_981 rfl ?_
  refine l_iconst (pc := 982) 1 C dL_law_982 (by decide) ?_
  refine l_iadd (pc := 983) C dL_law_983 ?_
  refine l_sld (pc := 984) (5 * t + 1) C (ladd _ 1) (by omega) (by omega) dL_law_984 ?_
  refine l_aload_n (pc := 985) C dL_law_985 rfl ?_
  refine l_iload_n (pc := 986) C dL_law_986 rfl ?_
  refine l_iconst (pc := 987) 2 C dL_law_987 (by decide) ?_
  refine l_iadd (pc := 988) C dL_law_988 ?_
  refine l_sld (pc := 989) (5 * t + 2) C (ladd _ 2) (by omega) (by omega) dL_law_989 ?_
  refine l_i2l (pc := 990) C dL_law_990 ?_
  refine l_bipush (pc := 991) 32 C dL_law_991 (by decide) ?_
  refine l_lshl (pc := 993) C dL_law_993 ?_
  refine l_aload_n (pc := 994) C dL_law_994 rfl ?_
  refine l_iload_n (pc := 995) C dL_law_995 rfl ?_
  refine l_iconst (pc := 996) 3 C dL_law_996 (by decide) ?_
  refine l_iadd (pc := 997) C dL_law_997 ?_
  refine l_sld (pc := 998) (5 * t + 3) C (ladd _ 3) (by omega) (by omega) dL_law_998 ?_
  refine l_i2l (pc := 999) C dL_law_999 ?_
  refine l_ldc2 (pc := 1000) 4294967295 C (List.mem_filter.mp tw_1461).1 dL_law_1000 ?_
  refine l_land (pc := 1003) C dL_law_1003 ?_
  refine l_lor (pc := 1004) C dL_law_1004 ?_
  refine l_callX (pc := 1005) (As := [.int (xs (5 * t + 1)), .long ((zlshl ((xs (5 * t + 2)).toInt64) 32) ||| (((xs (5 * t + 3)).toInt64) &&& 4294967295))]) C (cNN_feed l G (xs (5 * t + 1)) ((zlshl ((xs (5 * t + 2)).toInt64) 32) ||| (((xs (5 * t + 3)).toInt64) &&& 4294967295)) Mx) h1 zc_X9_feed rfl (fun _ => rfl) tw_894 (by decide) (Nat.le_of_ble_eq_true rfl) dL_law_1005 ?_ hn
  refine l_aload_n (pc := 1008) C dL_law_1008 rfl ?_
  refine l_aload_n (pc := 1009) C dL_law_1009 rfl ?_
  refine l_iload_n (pc := 1010) C dL_law_1010 rfl ?_
  refine l_iconst (pc := 1011) 1 C dL_law_1011 (by decide) ?_
  refine l_iadd (pc := 1012) C dL_law_1012 ?_
  refine l_sld (pc := 1013) (5 * t + 1) C (ladd _ 1) (by omega) (by omega) dL_law_1013 ?_
  refine l_aload_n (pc := 1014) C dL_law_1014 rfl ?_
  refine l_iload_n (pc := 1015) C dL_law_1015 rfl ?_
  refine l_iconst (pc := 1016) 2 C dL_law_1016 (by decide) ?_
  refine l_iadd (pc := 1017) C dL_law_1017 ?_
  refine l_sld (pc := 1018) (5 * t + 2) C (ladd _ 2) (by omega) (by omega) dL_law_1018 ?_
  refine l_i2l (pc := 1019) C dL_law_1019 ?_
  refine l_bipush (pc := 1020) 32 C dL_law_1020 (by decide) ?_
  refine l_lshl (pc := 1022) C dL_law_1022 ?_
  refine l_aload_n (pc := 1023) C dL_law_1023 rfl ?_
  refine l_iload_n (pc := 1024) C dL_law_1024 rfl ?_
  refine l_iconst (pc := 1025) 3 C dL_law_1025 (by decide) ?_
  refine l_iadd (pc := 1026) C dL_law_1026 ?_
  refine l_sld (pc := 1027) (5 * t + 3) C (ladd _ 3) (by omega) (by omega) dL_law_1027 ?_
  refine l_i2l (pc := 1028) C dL_law_1028 ?_
  refine l_ldc2 (pc := 1029) 4294967295 C (List.mem_filter.mp tw_1461).1 dL_law_1029 ?_
  refine l_land (pc := 1032) C dL_law_1032 ?_
  refine l_lor (pc := 1033) C dL_law_1033 ?_
  refine l_callY (pc := 1034) (As := [.int (xs (5 * t + 1)), .long ((zlshl ((xs (5 * t + 2)).toInt64) 32) ||| (((xs (5 * t + 3)).toInt64) &&& 4294967295))]) C (cMd_feed l G (xs (5 * t + 1)) ((zlshl ((xs (5 * t + 2)).toInt64) 32) ||| (((xs (5 * t + 3)).toInt64) &&& 4294967295)) My) h2 zc_X10_feed rfl (fun _ => rfl) tw_1408 (by decide) (Nat.le_of_ble_eq_true rfl) dL_law_1034 ?_ hn
  refine l_icmp_eq (pc := 1037) 1091 C dL_law_1037 (by decide) ?_
  exact h3 r Mx1 My1 hR
theorem law_read (C : lCx p s m meth c G b L xs adX adY) (hn : n1 ≤ 600000 ∧ n2 ≤ 7302250) {Rl : zM → zM → Nat → Prop} {t : Nat} {Mx My : zM} (hL : L ≤ 2560) (ht : 5 * t + 5 ≤ L) (hS : zStep Rl (fun M => fNN_read  M) (fun M => fMd_read  M)) (hRl : Rl Mx My t)
    (h3 : ∀ (r : Int32) (Mx1 My1 : zM), Rl Mx1 My1 (t + 1) → lV p l e s m below meth c G b adX adY n1 n2 1091 [(0, .ref 0), (1, .ref 1), (2, .ref 2), (3, .int (nI (5 * t)))] [] Mx1 My1) : lV p l e s m below meth c G b adX adY n1 n2 1042 [(0, .ref 0), (1, .ref 1), (2, .ref 2), (3, .int (nI (5 * t)))] [] Mx My := by
  obtain ⟨r, Mx1, My1, h1, h2, hR⟩ := hS Mx My t (by omega) hRl
  refine l_aload_n (pc := 1042) C dL_law_1042 rfl ?_
  refine l_callX (pc := 1043) (As := []) C (cNN_read l G  Mx) h1 zc_X9_read rfl (fun _ => rfl) tw_902 (by decide) (Nat.le_of_ble_eq_true rfl) dL_law_1043 ?_ hn
  refine l_aload_n (pc := 1046) C dL_law_1046 rfl ?_
  refine l_callY (pc := 1047) (As := []) C (cMd_read l G  My) h2 zc_X10_read rfl (fun _ => rfl) tw_1414 (by decide) (Nat.le_of_ble_eq_true rfl) dL_law_1047 ?_ hn
  refine l_icmp_eq (pc := 1050) 1091 C dL_law_1050 (by decide) ?_
  exact h3 r Mx1 My1 hR
theorem law_fault (C : lCx p s m meth c G b L xs adX adY) (hn : n1 ≤ 600000 ∧ n2 ≤ 7302250) {Rl : zM → zM → Nat → Prop} {t : Nat} {Mx My : zM} (hL : L ≤ 2560) (ht : 5 * t + 5 ≤ L) (hS : zStep Rl (fun M => fNN_fault  M) (fun M => fMd_fault  M)) (hRl : Rl Mx My t)
    (h3 : ∀ (r : Int32) (Mx1 My1 : zM), Rl Mx1 My1 (t + 1) → lV p l e s m below meth c G b adX adY n1 n2 1091 [(0, .ref 0), (1, .ref 1), (2, .ref 2), (3, .int (nI (5 * t)))] [] Mx1 My1) : lV p l e s m below meth c G b adX adY n1 n2 1055 [(0, .ref 0), (1, .ref 1), (2, .ref 2), (3, .int (nI (5 * t)))] [] Mx My := by
  obtain ⟨r, Mx1, My1, h1, h2, hR⟩ := hS Mx My t (by omega) hRl
  refine l_aload_n (pc := 1055) C dL_law_1055 rfl ?_
  refine l_callX (pc := 1056) (As := []) C (cNN_fault l G  Mx) h1 zc_X9_fault rfl (fun _ => rfl) tw_1012 (by decide) (Nat.le_of_ble_eq_true rfl) dL_law_1056 ?_ hn
  refine l_aload_n (pc := 1059) C dL_law_1059 rfl ?_
  refine l_callY (pc := 1060) (As := []) C (cMd_fault l G  My) h2 zc_X10_fault rfl (fun _ => rfl) tw_1453 (by decide) (Nat.le_of_ble_eq_true rfl) dL_law_1060 ?_ hn
  refine l_icmp_eq (pc := 1063) 1091 C dL_law_1063 (by decide) ?_
  exact h3 r Mx1 My1 hR
theorem law_said (C : lCx p s m meth c G b L xs adX adY) (hn : n1 ≤ 600000 ∧ n2 ≤ 7302250) {Rl : zM → zM → Nat → Prop} {t : Nat} {Mx My : zM} (hL : L ≤ 2560) (ht : 5 * t + 5 ≤ L) (hS : zStep Rl (fun M => fNN_said (xs (5 * t + 1)) M) (fun M => fMd_said (xs (5 * t + 1)) M)) (hRl : Rl Mx My t)
    (h3 : ∀ (r : Int32) (Mx1 My1 : zM), Rl Mx1 My1 (t + 1) → lV p l e s m below meth c G b adX adY n1 n2 1091 [(0, .ref 0), (1, .ref 1), (2, .ref 2), (3, .int (nI (5 * t)))] [] Mx1 My1) : lV p l e s m below meth c G b adX adY n1 n2 1068 [(0, .ref 0), (1, .ref 1), (2, .ref 2), (3, .int (nI (5 * t)))] [] Mx My := by
  obtain ⟨r, Mx1, My1, h1, h2, hR⟩ := hS Mx My t (by omega) hRl
  refine l_aload_n (pc := 1068) C dL_law_1068 rfl ?_
  refine l_aload_n (pc := 1069) C dL_law_1069 rfl ?_
  refine l_iload_n (pc := 1070) C dL_law_1070 rfl ?_
  refine l_iconst (pc := 1071) 1 C dL_law_1071 (by decide) ?_
  refine l_iadd (pc := 1072) C dL_law_1072 ?_
  refine l_sld (pc := 1073) (5 * t + 1) C (ladd _ 1) (by omega) (by omega) dL_law_1073 ?_
  refine l_callX (pc := 1074) (As := [.int (xs (5 * t + 1))]) C (cNN_said l G (xs (5 * t + 1)) Mx) h1 zc_X9_said rfl (fun _ => rfl) tw_1016 (by decide) (Nat.le_of_ble_eq_true rfl) dL_law_1074 ?_ hn
  refine l_aload_n (pc := 1077) C dL_law_1077 rfl ?_
  refine l_aload_n (pc := 1078) C dL_law_1078 rfl ?_
  refine l_iload_n (pc := 1079) C dL_law_1079 rfl ?_
  refine l_iconst (pc := 1080) 1 C dL_law_1080 (by decide) ?_
  refine l_iadd (pc := 1081) C dL_law_1081 ?_
  refine l_sld (pc := 1082) (5 * t + 1) C (ladd _ 1) (by omega) (by omega) dL_law_1082 ?_
  refine l_callY (pc := 1083) (As := [.int (xs (5 * t + 1))]) C (cMd_said l G (xs (5 * t + 1)) My) h2 zc_X10_said rfl (fun _ => rfl) tw_1457 (by decide) (Nat.le_of_ble_eq_true rfl) dL_law_1083 ?_ hn
  refine l_icmp_eq (pc := 1086) 1091 C dL_law_1086 (by decide) ?_
  exact h3 r Mx1 My1 hR
theorem law_loop (C : lCx p s m meth c G b L xs adX adY) (hn : n1 ≤ 600000 ∧ n2 ≤ 7302250) {Rl : zM → zM → Nat → Prop} (hL : L ≤ 2560) (hA : zSteps Rl) (hmono : ∀ Mx My n, Rl Mx My n → Rl Mx My (n + 1)) : ∀ (d t : Nat) (Mx My : zM), 5 * t ≤ L + 4 → 512 - t ≤ d → t ≤ 512 → Rl Mx My t → lV p l e s m below meth c G b adX adY n1 n2 18 [(0, .ref 0), (1, .ref 1), (2, .ref 2), (3, .int (nI (5 * t)))] [] Mx My := by
  intro d
  induction d with
  | zero =>
    intro t Mx My h5 hd ht hR
    have : t = 512 := by omega
    subst this
    refine l_iload_n (pc := 18) C dL_law_18 rfl ?_
    refine l_aload_n (pc := 19) C dL_law_19 rfl ?_
    refine l_slen (pc := 20) C dL_law_20 ?_
    refine l_iconst (pc := 21) 5 C dL_law_21 (by decide) ?_
    refine l_isub (pc := 22) C dL_law_22 ?_
    refine l_icmp_gt (pc := 23) 1097 C dL_law_23 (by decide) (fun _ => ?_) (fun hc => absurd (lgt L 512 (by omega) (by omega) (by omega)) hc)
    refine l_iconst (pc := 1097) 1 C dL_law_1097 (by decide) ?_
    exact l_ret C hn.1 hn.2 dL_law_1098
  | succ d ih =>
    intro t Mx My h5 hd ht hR
    refine l_iload_n (pc := 18) C dL_law_18 rfl ?_
    refine l_aload_n (pc := 19) C dL_law_19 rfl ?_
    refine l_slen (pc := 20) C dL_law_20 ?_
    refine l_iconst (pc := 21) 5 C dL_law_21 (by decide) ?_
    refine l_isub (pc := 22) C dL_law_22 ?_
    refine l_icmp_gt (pc := 23) 1097 C dL_law_23 (by decide) (fun _ => ?_) (fun hc => ?_)
    · refine l_iconst (pc := 1097) 1 C dL_law_1097 (by decide) ?_
      exact l_ret C hn.1 hn.2 dL_law_1098
    · have h5L : 5 * t + 5 ≤ L := Nat.not_lt.mp (fun hlt => hc (lgt L t (by omega) hlt ht))
      have h3 : ∀ (r : Int32) (Mx1 My1 : zM), Rl Mx1 My1 (t + 1) → lV p l e s m below meth c G b adX adY n1 n2 1091 [(0, .ref 0), (1, .ref 1), (2, .ref 2), (3, .int (nI (5 * t)))] [] Mx1 My1 := by
        intro r Mx1 My1 hR1
        refine l_iinc (pc := 1091) 5 C dL_law_1091 rfl (by decide) (by decide) ?_
        refine l_goto (pc := 1094) 18 C dL_law_1094 (by decide) ?_
        rw [ladd (5 * t) 5]
        exact l_sub (ih (t + 1) Mx1 My1 (by omega) (by omega) (by omega) hR1) rfl
      refine l_aload_n (pc := 26) C dL_law_26 rfl ?_
      refine l_iload_n (pc := 27) C dL_law_27 rfl ?_
      refine l_sld (pc := 28) (5 * t) C rfl (by omega) (by omega) dL_law_28 ?_
      refine l_bipush (pc := 29) 31 C dL_law_29 (by decide) ?_
      refine l_iand (pc := 31) C dL_law_31 ?_
      obtain ⟨s0, s1, s2, s3, s4, s5, s6, s7, s8, s9, s10, s11, s12, s13, s14, s15, s16, s17, s18, s19, s20, s21, s22, s23, s24, s25, s26, s27, s28⟩ := hA
      refine l_tsw (pc := 32) (dt := 1091) [164, 187, 200, 233, 256, 279, 312, 345, 388, 421, 464, 507, 530, 583, 626, 669, 692, 715, 748, 781, 804, 837, 870, 923, 966, 979, 1042, 1055, 1068] C dL_law_32 (by decide) (by decide) (by decide) (by decide) (fun i tgt hi => ?_) (h3 0 Mx My (hmono Mx My t hR))
      match i, hi with
      | 0, hi => cases Option.some.inj hi; exact law_net C hn hL h5L (s0 _) hR h3
      | 1, hi => cases Option.some.inj hi; exact law_post C hn hL h5L (s1) hR h3
      | 2, hi => cases Option.some.inj hi; exact law_line C hn hL h5L (s2 _ _) hR h3
      | 3, hi => cases Option.some.inj hi; exact law_strike C hn hL h5L (s3 _) hR h3
      | 4, hi => cases Option.some.inj hi; exact law_count C hn hL h5L (s4 _) hR h3
      | 5, hi => cases Option.some.inj hi; exact law_told C hn hL h5L (s5 _ _) hR h3
      | 6, hi => cases Option.some.inj hi; exact law_lines C hn hL h5L (s6 _ _) hR h3
      | 7, hi => cases Option.some.inj hi; exact law_name C hn hL h5L (s7 _ _ _) hR h3
      | 8, hi => cases Option.some.inj hi; exact law_bits C hn hL h5L (s8 _ _) hR h3
      | 9, hi => cases Option.some.inj hi; exact law_ask C hn hL h5L (s9 _ _ _) hR h3
      | 10, hi => cases Option.some.inj hi; exact law_parted C hn hL h5L (s10 _ _ _) hR h3
      | 11, hi => cases Option.some.inj hi; exact law_learn C hn hL h5L (s11 _) hR h3
      | 12, hi => cases Option.some.inj hi; exact law_forge C hn hL h5L (s12 _ _ _ _) hR h3
      | 13, hi => cases Option.some.inj hi; exact law_book C hn hL h5L (s13 _ _ _) hR h3
      | 14, hi => cases Option.some.inj hi; exact law_answer C hn hL h5L (s14 _ _ _) hR h3
      | 15, hi => cases Option.some.inj hi; exact law_stale C hn hL h5L (s15 _) hR h3
      | 16, hi => cases Option.some.inj hi; exact law_damaged C hn hL h5L (s16 _) hR h3
      | 17, hi => cases Option.some.inj hi; exact law_next C hn hL h5L (s17 _ _) hR h3
      | 18, hi => cases Option.some.inj hi; exact law_goes C hn hL h5L (s18 _ _) hR h3
      | 19, hi => cases Option.some.inj hi; exact law_stretch C hn hL h5L (s19 _) hR h3
      | 20, hi => cases Option.some.inj hi; exact law_cut C hn hL h5L (s20 _ _) hR h3
      | 21, hi => cases Option.some.inj hi; exact law_ways C hn hL h5L (s21 _ _) hR h3
      | 22, hi => cases Option.some.inj hi; exact law_holds C hn hL h5L (s22 _ _ _ _) hR h3
      | 23, hi => cases Option.some.inj hi; exact law_universal C hn hL h5L (s23 _ _ _) hR h3
      | 24, hi => cases Option.some.inj hi; exact law_small C hn hL h5L (s24) hR h3
      | 25, hi => cases Option.some.inj hi; exact law_feed C hn hL h5L (s25 _ _) hR h3
      | 26, hi => cases Option.some.inj hi; exact law_read C hn hL h5L (s26) hR h3
      | 27, hi => cases Option.some.inj hi; exact law_fault C hn hL h5L (s27) hR h3
      | 28, hi => cases Option.some.inj hi; exact law_said C hn hL h5L (s28 _) hR h3
      | i + 29, hi => simp at hi
end lCases
