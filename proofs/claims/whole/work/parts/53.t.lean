theorem s_S_wire {θ : TH} {sw : Bool} {U : UT} {V : VT} {K : Int32 → VT → UT → Prop} {x : Int32} {n : Nat} (hθ : OKt θ) (hU : US θ sw U) (hn : V (tb θ + 1) 1 = nI n) (h1 : n ≤ 1000) (hk : K (if ¬ x < 0 ∧ x < nI n then V (tb θ + 2) x.toNatClampNeg else -1) V U) : wp_S_wire θ (tb θ + 0) x V U K := by
  unfold wp_S_wire wp_W_at wb_W_at_21
  simp only [FU_0 hU, FI_0 hθ, hn, exists_eq_left, true_and]
  sorry
