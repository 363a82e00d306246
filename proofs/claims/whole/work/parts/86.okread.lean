section OKREAD
variable {θ : TH} {D : DT}
theorem ok_pieces (hθ : OKt θ) : OP_pieces θ (IW θ (RR θ D)) := by
  intro V U Kc hI hk
  have hI' := hI
  obtain ⟨sw, n, r, w, h, hb, hU, hWV, hWM, hH, hO, hR, -⟩ := hI
  obtain ⟨l, g, h1, h2, ⟨se, h3, h3'⟩, h4, h5, h6, h7, h8, h9, h10, h11⟩ := hR
  unfold wp_S_pieces
  simp only [UC hU, IC hθ, true_and]
  refine ⟨by omega, hk _ _ _ (fun Kf hf => ?_)⟩
  unfold wp_M_pieces
  simp only [IM hθ, true_and]
  rw [h9, ← h3.2.2.1]
  exact hf V U hI'
theorem ok_amount (hθ : OKt θ) : OP_amount θ (IW θ (RR θ D)) := by
  intro V U Kc hI hk
  have hI' := hI
  obtain ⟨sw, n, r, w, h, hb, hU, hWV, hWM, hH, hO, -, ⟨L1, L2⟩, -⟩ := hI
  unfold wp_S_amount
  simp only [UC hU, IC hθ, true_and]
  refine ⟨by omega, by omega, fun q => hk _ _ _ (fun Kf hf => ?_), fun q => hk _ _ _ (fun Kf hf => ?_)⟩
  · unfold wp_M_amount
    simp only [IM hθ, true_and]
    refine ⟨fun _ => ?_, fun e => absurd (L1.trans e) q⟩
    rcases L2 with a | ⟨a, b, c⟩ | ⟨kd, k1, k2, a, b, c, d⟩
    · exact absurd a q
    · rw [← b]; exact hf V U hI'
    · rw [← b]; exact hf V U hI'
  · unfold wp_M_amount
    simp only [IM hθ, true_and]
    exact ⟨fun e => absurd (L1.symm.trans q) e, fun _ => hf V U hI'⟩
theorem ok_serial (hθ : OKt θ) : OP_serial θ (IW θ (RR θ D)) := by
  intro V U Kc hI hk
  have hI' := hI
  obtain ⟨sw, n, r, w, h, hb, hU, hWV, hWM, hH, hO, -, ⟨L1, L2⟩, -⟩ := hI
  unfold wp_S_serial
  simp only [UC hU, IC hθ, true_and]
  refine ⟨by omega, by omega, fun q => hk _ _ _ (fun Kf hf => ?_), fun q => hk _ _ _ (fun Kf hf => ?_)⟩
  · unfold wp_M_serial
    simp only [IM hθ, true_and]
    rw [← L1]
    rcases L2 with a | ⟨a, b, c⟩ | ⟨kd, k1, k2, a, b, c, d⟩
    · exact absurd a q
    · rw [c] at hf; rw [a]; exact br_f (by decide) (hf V U hI')
    · rw [c] at hf; rw [a]; exact br_t (nI_le (a := 2) k1 (by omega)) (hf V U hI')
  · unfold wp_M_serial
    simp only [IM hθ, true_and]
    rw [← L1, q]
    exact br_f (by decide) (hf V U hI')
theorem ok_time (hθ : OKt θ) : OP_time θ (IW θ (RR θ D)) := by
  intro V U Kc hI hk
  have hI' := hI
  obtain ⟨sw, n, r, w, h, hb, hU, hWV, hWM, hH, hO, -, ⟨L1, L2⟩, -⟩ := hI
  unfold wp_S_time
  simp only [UC hU, IC hθ, true_and]
  refine ⟨by omega, by omega, fun q => hk _ _ _ (fun Kf hf => ?_), fun q => hk _ _ _ (fun Kf hf => ?_)⟩
  · unfold wp_M_time
    simp only [IM hθ, true_and]
    rw [← L1]
    exact ⟨fun _ => hf V U hI', fun e => absurd e q⟩
  · unfold wp_M_time
    simp only [IM hθ, true_and]
    rw [← L1]
    refine ⟨fun e => absurd q e, fun _ => ?_⟩
    rcases L2 with a | ⟨a, b, c⟩ | ⟨kd, k1, k2, a, b, c, d⟩
    · rw [a] at q; exact absurd q (by decide)
    · rw [a] at q; exact absurd q (by decide)
    · rw [a] at q
      have : kd = 3 := (nI_eq (a := kd) (b := 3) (by omega) (by decide)).mp q
      rw [← d this]
      exact hf V U hI'
theorem ok_octet (hθ : OKt θ) : OP_octet θ (IW θ (RR θ D)) := by
  intro x V U Kc hI hk
  have hI' := hI
  obtain ⟨sw, n, r, w, h, hb, hU, hWV, hWM, hH, hO, -, -, ⟨L, ob, g1, g2, g3, g4, g5, g6, g7, g8, g9⟩, -⟩ := hI
  unfold wp_S_octet wp_H_at wb_H_at_28
  simp only [UC hU, IC hθ, true_and, exists_eq_left, g4]
  have mm : ∀ Kf : Int32 → VT → UT → Prop, wp_M_octet θ (tb θ + 126) x V U Kf = (((V (tb θ + 25) 1 = 0 → Kf (-1) V U) ∧ (¬ V (tb θ + 25) 1 = 0 → ((x < 0 → Kf (-1) V U) ∧ (¬ x < 0 → ((x < nI L → tb θ + 149 ≠ 0 ∧ vp_in x 1000 ∧ Kf (V (tb θ + 149) x.toNatClampNeg) V U) ∧ (¬ x < nI L → Kf (-1) V U))))))) := by
    intro Kf
    unfold wp_M_octet wb_M_octet_19
    simp only [UM hU, IM hθ, true_and, exists_eq_left, g5, ← g2]
  refine ⟨by omega, fun q => hk _ _ _ (fun Kf hf => ?_), fun q => ?_⟩
  · rw [mm]
    exact ⟨fun _ => hf V U hI', fun e => absurd q e⟩
  · rcases i_cases x L (by omega) with ⟨hx, hne⟩ | ⟨j, hj, rfl⟩
    · refine br_t hx (hk _ _ _ (fun Kf hf => ?_))
      rw [mm]
      exact ⟨fun e => absurd e q, fun _ => br_t hx (hf V U hI')⟩
    · refine br_f (nI_pos hj) (pk_le L j (fun h2 => hk _ _ _ (fun Kf hf => ?_)) (fun h2 => ⟨by omega, vp_in_nI (by omega) (by decide), hk _ _ _ (fun Kf hf => ?_)⟩))
      · rw [mm]
        exact ⟨fun e => absurd e q, fun _ => br_f (nI_pos hj) (br_f (nI_nlt h2 hj) (hf V U hI'))⟩
      · rw [nI_clamp hj, (g9 j h2).1] at hf
        rw [mm, nI_clamp hj]
        refine ⟨fun e => absurd e q, fun _ => br_f (nI_pos hj) (br_t (nI_lt h2 (by omega)) ⟨by omega, vp_in_nI (by omega) (by decide), ?_⟩)⟩
        rw [(g9 j h2).2.1]
        exact hf V U hI'
end OKREAD
