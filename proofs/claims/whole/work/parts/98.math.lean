theorem math_holds (θ : TH) (K : Nat × (Nat → Int32)) (h0 : 0 < tb θ) (hL : tL θ = lay) (hK : K.1 ≤ 2048) : MATH θ K :=
  math_of θ K h0 hL hK (IW (θn θ 166) (RR (θn θ 166) (DCR (θn θ 166)))) (I_start (θn θ 166)) (ops_keep ⟨rfl, hL, h0⟩)
/-- the law's walk from its entry -/
theorem whole_start {p : Program} {e : Env} {s : State} {m : MethodId} {below : List Frame} {meth : Method} {c : Code} (l : Launch) {b L : Nat} {xs : Nat → Int32} (hL : L ≤ 2048) (C0 : lw_At p s m meth c b L xs) : W p l e room_1 s m #[Value.ref b] below meth c s.heap [] 0 0 (lw_Z below #[Value.ref b] s) (entryFrame m ([Value.ref b] : List Value).toArray 4) := whole_start_open math_holds l hL C0
