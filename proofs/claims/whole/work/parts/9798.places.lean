-- curve and value
section PLACES
variable {θ : TH} {V : VT} {U : UT} {sw : Bool}
def HasP (c bs : Nat) (x y : Int32) : Prop := ∃ ch k : Nat, x = nI ch ∧ y = nI k ∧ ch < c ∧ k < bs / 2
theorem s_has {K : Int32 → VT → UT → Prop} (hθ : OKt θ) (hU : US θ sw U) {c bs : Nat} (hc : c ≤ 2) (hb : bs ≤ 64) (h3 : V (tb θ + 66) 3 = nI c) (h11 : V (tb θ + 66) 11 = nI bs) {x y : Int32} (h0 : ¬ HasP c bs x y → K 0 V U) (h1 : HasP c bs x y → K 1 V U) : wp_D_hasPlace θ (tb θ + 66) x y V U K := by
  unfold wp_D_hasPlace wb_D_hasPlace_16 wb_D_hasPlace_17 wb_D_hasPlace_40
  simp only [dcU hθ hU, true_and]
  rw [h3, h11, show (2 : Int32) = nI 2 from rfl, pk_div (by omega) (by decide) (by decide)]
  have neg : ∀ n : Nat, n < 2 ^ 31 → ¬ nI n < 0 := fun n hn => nI_pos hn
  refine ⟨fun q => ⟨fun _ => h0 (fun ⟨ch, k, e1, _, e3, _⟩ => absurd q (by rw [e1]; exact neg _ (by omega))), fun z => absurd trivial z⟩, fun q => ⟨fun q2 => ⟨fun _ => h0 (fun ⟨ch, k, e1, _, e3, _⟩ => absurd q2 (by rw [e1]; exact nI_ge e3 (by omega))), fun z => absurd trivial z⟩, fun q2 => ⟨fun z => absurd z (by decide), fun _ => ⟨fun q3 => h0 (fun ⟨ch, k, _, e2, _, e4⟩ => absurd q3 (by rw [e2]; exact neg _ (by omega))), fun q3 => ⟨by decide, fun q4 => h0 (fun ⟨ch, k, _, e2, _, e4⟩ => absurd q4 (by rw [e2]; exact nI_ge e4 (by omega))), fun q4 => h1 ?_⟩⟩⟩⟩⟩
  obtain ⟨ch, hc0, rfl⟩ := nI_of q
  obtain ⟨k, hk0, rfl⟩ := nI_of q3
  exact ⟨ch, k, rfl, rfl, Nat.lt_of_not_le (fun z => q2 (nI_le z hc0)), Nat.lt_of_not_le (fun z => q4 (nI_le z hk0))⟩
theorem m_has {K : Int32 → VT → UT → Prop} (hθ : OKt θ) {c bs : Nat} (hc : c ≤ 2) (hb : bs ≤ 64) (h41 : V (tb θ + 126) 41 = nI c) (h54 : (V (tb θ + 126) 54 = 0 ∧ bs = 0) ∨ (V (tb θ + 126) 54 = 1 ∧ V (tb θ + 126) 57 = nI bs)) {x y : Int32} (h0 : ¬ HasP c bs x y → K 1 V U) (h1 : HasP c bs x y → K 0 V U) : wp_M_noPlace θ (tb θ + 126) x y V U K := by
  unfold wp_M_noPlace wb_M_noPlace_33
  simp only [IM hθ, true_and]
  have neg : ∀ n : Nat, n < 2 ^ 31 → ¬ nI n < 0 := fun n hn => nI_pos hn
  rcases h54 with ⟨a, b⟩ | ⟨a, b⟩
  · rw [a]
    refine ⟨fun _ => h0 (fun ⟨ch, k, _, _, _, e4⟩ => ?_), fun z => absurd rfl z⟩
    rw [b] at e4; omega
  · rw [a, b, h41, show (2 : Int32) = nI 2 from rfl, pk_div (by omega) (by decide) (by decide)]
    refine ⟨fun z => absurd z (by decide), fun _ => ⟨fun q => h0 (fun ⟨ch, k, e1, _, e3, _⟩ => absurd q (by rw [e1]; exact neg _ (by omega))), fun q => ⟨fun q2 => h0 (fun ⟨ch, k, e1, _, e3, _⟩ => absurd q2 (by rw [e1]; exact nI_ge e3 (by omega))), fun q2 => ⟨fun q3 => h0 (fun ⟨ch, k, _, e2, _, e4⟩ => absurd q3 (by rw [e2]; exact neg _ (by omega))), fun q3 => ⟨by decide, fun q4 => h1 ?_, fun q4 => h0 (fun ⟨ch, k, _, e2, _, e4⟩ => q4 (by rw [e2]; exact nI_lt e4 (by omega)))⟩⟩⟩⟩⟩
    obtain ⟨ch, hc0, rfl⟩ := nI_of q
    obtain ⟨k, hk0, rfl⟩ := nI_of q3
    exact ⟨ch, k, rfl, rfl, Nat.lt_of_not_le (fun z => q2 (nI_le z hc0)), Nat.lt_of_not_le (fun z => nI_nlt z hk0 q4)⟩
theorem BLK_bs {c : Nat} (h : BLK θ V c) : ∃ bs, bs ≤ 64 ∧ V (tb θ + 66) 11 = nI bs ∧ ((V (tb θ + 126) 54 = 0 ∧ bs = 0) ∨ (V (tb θ + 126) 54 = 1 ∧ V (tb θ + 126) 57 = nI bs)) ∧ ∀ ch x, ch < c → x < bs / 2 → V (tb θ + (101 + ch)) x = V (tb θ + 159) (32 * ch + x) ∧ V (tb θ + (104 + ch)) x = V (tb θ + 160) (32 * ch + x) := by
  rcases h with ⟨a, b⟩ | ⟨a, sz, b1, b2, b3, b4, b5, b6⟩
  · exact ⟨0, by omega, b, Or.inl ⟨a, rfl⟩, fun ch x _ hx => (by omega)⟩
  · exact ⟨sz, b2, b3, Or.inr ⟨a, b4⟩, b6⟩
theorem rowU (hθ : OKt θ) (hU : US θ sw U) {ch : Nat} (hch : ch < 2) : U (tb θ + 100) ch = tb θ + (101 + ch) ∧ U (tb θ + 103) ch = tb θ + (104 + ch) ∧ (∀ k, isA θ (tb θ + (101 + ch)) 0 k ↔ k = 32) ∧ (∀ k, isA θ (tb θ + (104 + ch)) 0 k ↔ k = 32) := by
  have : ch = 0 ∨ ch = 1 := by omega
  rcases this with rfl | rfl
  · exact ⟨uq hU (by cases sw <;> decide +kernel), uq hU (by cases sw <;> decide +kernel), kA hθ (by decide) rfl, kA hθ (by decide) rfl⟩
  · exact ⟨uq hU (by cases sw <;> decide +kernel), uq hU (by cases sw <;> decide +kernel), kA hθ (by decide) rfl, kA hθ (by decide) rfl⟩
theorem ok_curve (hθ : OKt θ) : OP_curve θ (IW θ (RR θ (DCR θ))) := by
  intro x y V U Kc hI hk
  have hI' := hI
  obtain ⟨sw, n, r, w, h, hb, hU, hWV, hWM, hH, hO, hR, hLT, hHN, c, s, L, B, bk, g⟩ := hI
  obtain ⟨g1, g2, g3, g4, g5, g6, g7, g8, g9, g10, g11, g12, g13, g14, g15⟩ := g
  obtain ⟨bs, k1, k2, k3, k4⟩ := BLK_bs g14
  unfold wp_S_curve
  simp only [UC hU, IC hθ, dcU hθ hU, true_and, exists_eq_left]
  refine ⟨by omega, s_has hθ hU g1 k1 g2 k2 (fun q => ⟨fun _ => hk _ _ _ (fun Kf hf => ?_), fun z => absurd rfl z⟩) (fun q => ⟨fun z => absurd z (by decide), fun _ => ?_⟩)⟩
  · unfold wp_M_curve
    simp only [IM hθ, true_and]
    exact m_has hθ g1 k1 g3 k3 (fun _ => ⟨fun z => absurd z (by decide), fun _ => hf V U hI'⟩) (fun z => absurd z q)
  · have q' := q
    obtain ⟨ch, k, rfl, rfl, hch, hkk⟩ := q
    obtain ⟨u1, u2, u3, u4⟩ := rowU hθ hU (show ch < 2 by omega)
    simp only [UC hU, IC hθ, dcU hθ hU, true_and, exists_eq_left]
    rw [nI_clamp (show ch < 2 ^ 31 by omega), u1, nI_clamp (show k < 2 ^ 31 by omega)]
    refine ⟨by omega, by omega, vp_in_nI (by omega) (by decide), by omega, 32, (u3 32).2 rfl, vp_in_nI (by omega) (by decide), hk _ _ _ (fun Kf hf => ?_)⟩
    unfold wp_M_curve
    simp only [IM hθ, true_and]
    refine m_has hθ g1 k1 g3 k3 (fun z => absurd q' z) (fun _ => ⟨fun _ => ?_, fun z => absurd rfl z⟩)
    simp only [UM hU, IM hθ, true_and, exists_eq_left]
    rw [show (32 : Int32) * nI ch = nI (32 * ch) from pk_mul 32 ch, nI_add, nI_clamp (show 32 * ch + k < 2 ^ 31 by omega), ← (k4 ch k hch hkk).1]
    exact ⟨by omega, vp_in_nI (by omega) (by decide), hf V U hI'⟩
theorem ok_value (hθ : OKt θ) : OP_value θ (IW θ (RR θ (DCR θ))) := by
  intro x y V U Kc hI hk
  have hI' := hI
  obtain ⟨sw, n, r, w, h, hb, hU, hWV, hWM, hH, hO, hR, hLT, hHN, c, s, L, B, bk, g⟩ := hI
  obtain ⟨g1, g2, g3, g4, g5, g6, g7, g8, g9, g10, g11, g12, g13, g14, g15⟩ := g
  obtain ⟨bs, k1, k2, k3, k4⟩ := BLK_bs g14
  unfold wp_S_value
  simp only [UC hU, IC hθ, dcU hθ hU, true_and, exists_eq_left]
  refine ⟨by omega, s_has hθ hU g1 k1 g2 k2 (fun q => ⟨fun _ => hk _ _ _ (fun Kf hf => ?_), fun z => absurd rfl z⟩) (fun q => ⟨fun z => absurd z (by decide), fun _ => ?_⟩)⟩
  · unfold wp_M_value
    simp only [IM hθ, true_and]
    exact m_has hθ g1 k1 g3 k3 (fun _ => ⟨fun z => absurd z (by decide), fun _ => hf V U hI'⟩) (fun z => absurd z q)
  · have q' := q
    obtain ⟨ch, k, rfl, rfl, hch, hkk⟩ := q
    obtain ⟨u1, u2, u3, u4⟩ := rowU hθ hU (show ch < 2 by omega)
    simp only [UC hU, IC hθ, dcU hθ hU, true_and, exists_eq_left]
    rw [nI_clamp (show ch < 2 ^ 31 by omega), u2, nI_clamp (show k < 2 ^ 31 by omega)]
    refine ⟨by omega, by omega, vp_in_nI (by omega) (by decide), by omega, 32, (u4 32).2 rfl, vp_in_nI (by omega) (by decide), hk _ _ _ (fun Kf hf => ?_)⟩
    unfold wp_M_value
    simp only [IM hθ, true_and]
    refine m_has hθ g1 k1 g3 k3 (fun z => absurd q' z) (fun _ => ⟨fun _ => ?_, fun z => absurd rfl z⟩)
    simp only [UM hU, IM hθ, true_and, exists_eq_left]
    rw [show (32 : Int32) * nI ch = nI (32 * ch) from pk_mul 32 ch, nI_add, nI_clamp (show 32 * ch + k < 2 ^ 31 by omega), ← (k4 ch k hch hkk).2]
    exact ⟨by omega, vp_in_nI (by omega) (by decide), hf V U hI'⟩
end PLACES
