theorem pure_all : ∃ Rl : zM → zM → Nat → Prop, zSteps Rl ∧ (∀ Mx My n, Rl Mx My n → Rl Mx My (n + 1)) ∧ Rl (mi_NN_0 (fun _ _ => 0)) (mi_Md_0 (fun _ _ => 0)) 0 := pure_of st_read
theorem whole_start {p : Program} {e : Env} {s : State} {m : MethodId} {below : List Frame} {meth : Method} {c : Code} (l : Launch) {b L : Nat} {xs : Nat → Int32} (hL : L ≤ 2560) (C0 : lw_At p s m meth c b L xs) : W p l e room_1 s m #[Value.ref b] below meth c s.heap [] 0 0 (lw_Z below #[Value.ref b] s) (entryFrame m ([Value.ref b] : List Value).toArray 4) := by
  obtain ⟨Rl, h1, h2, h3⟩ := pure_all
  exact whole_of h1 h2 h3 l hL C0
