-- the words of a book, the reference
section MWORDS
variable {θ : TH} {V : VT} {U : UT} {sw : Bool} {k E : Nat} {ln cd : Nat → Nat}
theorem m_fits {K : Int32 → VT → UT → Prop} (hθ : OKt θ) (hU : US θ sw U) (hk : k < 4) {e0 v : Nat} (h0 : e0 < E) (h8 : E ≤ 8) (hL : ∀ e, e < E → V (tb θ + 152) (8 * k + e) = nI (ln e) ∧ ln e ≤ 8) (hM : ∀ e, e < e0 → V (tb θ + 153) (8 * k + e) = nI (cd e) ∧ (0 < ln e → cd e < 2 ^ ln e)) (hl : 0 < ln e0) (hv : v < 2 ^ ln e0) (hy : fre ln cd e0 v → K 1 V U) (hn : ¬ fre ln cd e0 v → K 0 V U) : wp_M_fits θ (tb θ + 126) (nI (8 * k)) (nI e0) (nI v) (nI (ln e0)) V U K := by
  unfold wp_M_fits
  have hl8 := (hL e0 h0).2
  refine loop1 e0 (fun e V1 => V1 = V ∧ ∀ j, j < e → 0 < ln j → v / 2 ^ (ln e0 - min (ln e0) (ln j)) ≠ cd j / 2 ^ (ln j - min (ln e0) (ln j))) ⟨rfl, fun j hj => (by omega)⟩ (fun f e V1 he hJ hgo => ?_) (fun f V1 hJ => ?_)
  · obtain ⟨rfl, hC⟩ := hJ
    show bl_M_fits_3 _ _ _ _ _ _ _ _ _ _ _
    unfold bl_M_fits_3
    simp only [UM hU, IM hθ, true_and, exists_eq_left, nI_add]
    refine br_f (nI_ge he (by omega)) ⟨by omega, vp_in_nI (by omega) (by decide), fun y hy' => ?_⟩
    rw [nI_clamp (by omega), (hL e (by omega)).1] at hy'
    subst hy'
    have hle := (hL e (by omega)).2
    have fin : wb_M_fits_34 θ (tb θ + 126) (nI (8 * k)) (nI e0) (nI v) (nI (ln e0)) (nI e) (nI (ln e)) (nI (min (ln e0) (ln e))) (wl_M_fits_3 θ (tb θ + 126) (nI (8 * k)) (nI e0) (nI v) (nI (ln e0)) K f) K V1 U := by
      unfold wb_M_fits_34
      simp only [UM hU, IM hθ, true_and, exists_eq_left, nI_add]
      obtain ⟨m1, m2⟩ := hM e he
      rw [nI_clamp (show 8 * k + e < 2 ^ 31 by omega), m1]
      refine ⟨fun q y3 hy3 => ?_, fun q => ⟨by omega, vp_in_nI (by omega) (by decide), ?_⟩⟩
      · have hz : ¬ 0 < ln e := fun z => absurd q (nI_nle z (by omega))
        rw [hy3, nI_1]
        refine hgo _ ⟨rfl, fun j hj hp => ?_⟩
        by_cases ej : j = e
        · subst ej; exact absurd hp hz
        · exact hC j (by omega) hp
      · have hz : 0 < ln e := by
          by_cases z : 0 < ln e
          · exact z
          · exact absurd (by rw [show ln e = 0 by omega]; decide) q
        rw [shr_cd hl8 (Nat.min_le_left _ _) hv, shr_cd hle (Nat.min_le_right _ _) (m2 hz)]
        have b1 := div_lt8 (sh := min (ln e0) (ln e)) hl8 hv
        have b2 := div_lt8 (sh := min (ln e0) (ln e)) hle (m2 hz)
        rw [nI_eq (by omega) (by omega)]
        refine ⟨fun q y3 hy3 => ?_, fun q => hn (fun q4 => q4 e he hz q)⟩
        rw [hy3, nI_1]
        refine hgo _ ⟨rfl, fun j hj hp => ?_⟩
        by_cases ej : j = e
        · subst ej; exact q
        · exact hC j (by omega) hp
    refine pk_le (ln e0) (ln e) (fun q => ?_) (fun q => ?_)
    · rw [Nat.min_eq_left q] at fin; exact fin
    · rw [Nat.min_eq_right (by omega)] at fin; exact fin
  · obtain ⟨rfl, hC⟩ := hJ
    show bl_M_fits_3 _ _ _ _ _ _ _ _ _ _ _
    unfold bl_M_fits_3
    exact br_t (nI_le (Nat.le_refl _) (by omega)) (hy hC)
theorem m_words {K : Int32 → VT → UT → Prop} (hθ : OKt θ) (hU : US θ sw U) (hk : k < 4) (h8 : E ≤ 8) (hL : ∀ e, e < E → V (tb θ + 152) (8 * k + e) = nI (ln e) ∧ ln e ≤ 8) (hg : wdO ln E = true → GRE ln cd E) (h : ∀ W, FB V W (tb θ + 153) (8 * k) 8 → (wdO ln E = true → ∀ e, e < E → W (tb θ + 153) (8 * k + e) = nI (cd e)) → K (bZ (wdO ln E)) W U) : wp_M_words θ (tb θ + 126) (nI (8 * k)) (nI E) V U K := by
  unfold wp_M_words
  have words : wdO ln E = true → ∃ n, wl_M_words_89 θ (tb θ + 126) (nI (8 * k)) (nI E) K n (0 : Int32) V U := by
    intro hw
    have hg' := hg hw
    refine loop1 E (fun e W => FB V W (tb θ + 153) (8 * k) 8 ∧ ∀ j, j < e → W (tb θ + 153) (8 * k + j) = nI (cd j)) ⟨FB.refl, fun j hj => (by omega)⟩ (fun f e W he hJ hgo => ?_) (fun f W hJ => ?_)
    · obtain ⟨x1, x2⟩ := hJ
      show bl_M_words_89 _ _ _ _ _ _ _ _ _
      unfold bl_M_words_89
      simp only [UM hU, IM hθ, true_and, exists_eq_left, nI_add]
      refine br_f (nI_ge he (by omega)) ⟨by omega, vp_in_nI (by omega) (by decide), fun y hy => ?_⟩
      have hL' : ∀ e, e < E → W (tb θ + 152) (8 * k + e) = nI (ln e) ∧ ln e ≤ 8 := fun e he => by rw [x1.1 _ (by omega)]; exact hL e he
      rw [nI_clamp (by omega), (hL' e he).1] at hy
      subst hy
      have hle := (hL' e he).2
      have put : ∀ c, c = cd e → wb_M_words_143 θ (tb θ + 126) (nI (8 * k)) (nI E) (nI e) (nI c) (wl_M_words_89 θ (tb θ + 126) (nI (8 * k)) (nI E) K f) K W U := by
        intro c hc
        subst hc
        unfold wb_M_words_143
        simp only [UM hU, IM hθ, true_and, exists_eq_left, nI_add]
        refine ⟨by omega, vp_in_nI (by omega) (by decide), fun V9 h9 y hy => ?_⟩
        rw [h9, hy, nI_clamp (by omega), nI_1]
        refine hgo _ ⟨x1.up (by omega) (by omega), fun j hj => ?_⟩
        by_cases ej : j = e
        · subst ej; rw [up2_aa]
        · rw [up2_ab (by omega)]; exact x2 j (by omega)
      by_cases hz : 0 < ln e
      · obtain ⟨g1, g2, g3⟩ := (hg' e he).2 hz
        have hp8 : 2 ^ ln e ≤ 2 ^ 8 := p2le hle
        have esh : (1 : Int32) <<< (nI (ln e) &&& 31) = nI (2 ^ ln e) := by
          rw [show (1 : Int32) = nI 1 from rfl, pk_shlN _ (ln e) (sh31 (by omega)) (by omega), Nat.one_mul]
        have hM : ∀ j, j < e → W (tb θ + 153) (8 * k + j) = nI (cd j) ∧ (0 < ln j → cd j < 2 ^ ln j) := fun j hj => ⟨x2 j hj, fun hp => ((hg' j (by omega)).2 hp).1⟩
        have key : ∀ n v, v + n = cd e → wl_M_words_109 θ (tb θ + 126) (nI (8 * k)) (nI E) (nI e) (nI (ln e)) (wl_M_words_89 θ (tb θ + 126) (nI (8 * k)) (nI E) K f) K (n + 1) (nI v) W U := by
          intro n
          induction n with
          | zero =>
            intro v hv
            show bl_M_words_109 _ _ _ _ _ _ _ _ _ _ _ _
            unfold bl_M_words_109
            simp only [IM hθ, true_and]
            rw [esh]
            refine br_f (nI_nle hz (by omega)) (br_f (nI_ge (by omega) (by omega)) (m_fits hθ hU hk he h8 hL' hM hz (by omega) (fun _ => ⟨fun _ => put v (by omega), fun q => absurd q (by decide)⟩) (fun q => absurd (by rw [show v = cd e by omega]; exact g2) q)))
          | succ n ih =>
            intro v hv
            show bl_M_words_109 _ _ _ _ _ _ _ _ _ _ _ _
            unfold bl_M_words_109
            simp only [IM hθ, true_and]
            rw [esh]
            refine br_f (nI_nle hz (by omega)) (br_f (nI_ge (by omega) (by omega)) (m_fits hθ hU hk he h8 hL' hM hz (by omega) (fun q => absurd q (g3 v (by omega))) (fun _ => ⟨fun q => absurd rfl q, fun _ y3 hy3 => ?_⟩)))
            rw [hy3, nI_1]
            exact ih (v + 1) (by omega)
        exact ⟨_, key (cd e) 0 (by omega)⟩
      · refine ⟨1, ?_⟩
        show bl_M_words_109 _ _ _ _ _ _ _ _ _ _ _ _
        unfold bl_M_words_109
        refine br_t (by rw [show ln e = 0 by omega]; decide) (put 0 ?_)
        exact ((hg' e he).1 (by omega)).symm
    · obtain ⟨x1, x2⟩ := hJ
      show bl_M_words_89 _ _ _ _ _ _ _ _ _
      unfold bl_M_words_89
      rw [hw] at h
      exact br_t (nI_le (Nat.le_refl _) (by omega)) (h W x1 (fun _ => x2))
  have no : wdO ln E = false → K 0 V U := by
    intro q
    rw [q] at h
    exact h V FB.refl (fun q => Bool.noConfusion q)
  have hk1 := krs_le ln E
  have hc1 := cnU_le ln E
  have hs8 := sgl_le (fun e he => (hL e he).2)
  have key : ∀ n e, e + n = E → wl_M_words_11 θ (tb θ + 126) (nI (8 * k)) (nI E) K (n + 1) (nI (krs ln e)) (nI (cnU ln e)) (nI (sgl ln e)) (nI e) V U := by
    intro n
    induction n with
    | zero =>
      intro e he
      obtain rfl : e = E := by omega
      show bl_M_words_11 _ _ _ _ _ _ _ _ _ _ _ _
      unfold bl_M_words_11
      have e256 : nI (krs ln e) = 256 ↔ krs ln e = 256 := nI_eq (b := 256) (by omega) (by decide)
      have e1 : nI (cnU ln e) = 1 ↔ cnU ln e = 1 := nI_eq (b := 1) (by omega) (by decide)
      have es : nI (sgl ln e) = 1 ↔ sgl ln e = 1 := nI_eq (b := 1) (by omega) (by decide)
      rw [e256, e1, es]
      refine br_t (nI_le (Nat.le_refl _) (by omega)) ⟨fun q1 => words (by simp [wdO, q1]), fun q1 => ⟨fun q2 => no (by simp [wdO, q1, q2]), fun q2 => ?_⟩⟩
      obtain ⟨z1, z2⟩ := krs_1 q2
      have z3 := sgl_128 z2 hs8
      rw [← z1] at z3
      exact ⟨fun q3 => words (by simp [wdO, q2, z3.2 q3]), fun q3 => no (by simp [wdO, q1, mt z3.1 q3])⟩
    | succ n ih =>
      intro e he
      show bl_M_words_11 _ _ _ _ _ _ _ _ _ _ _ _
      unfold bl_M_words_11
      simp only [UM hU, IM hθ, true_and, exists_eq_left, nI_add]
      have hle := (hL e (by omega)).2
      rw [nI_clamp (show 8 * k + e < 2 ^ 31 by omega), (hL e (by omega)).1]
      have hi := ih (e + 1) (by omega)
      unfold krs cnU sgl at hi
      refine br_f (nI_ge (by omega) (by omega)) ⟨by omega, vp_in_nI (by omega) (by decide), fun q y hy => ?_, fun q y hy y2 hy2 y3 hy3 y4 hy4 => ?_⟩
      · have hz : ¬ 0 < ln e := fun z => absurd q (nI_nle z (by omega))
        rw [if_neg hz, if_neg hz, if_neg hz] at hi
        rw [hy, nI_1]
        exact hi
      · have hz : 0 < ln e := by
          by_cases z : 0 < ln e
          · exact z
          · exact absurd (by rw [show ln e = 0 by omega]; decide) q
        rw [if_pos hz, if_pos hz, if_pos hz] at hi
        have ed : 256 / 2 ^ ln e = 2 ^ (8 - ln e) := by
          rw [show 256 = 2 ^ ln e * 2 ^ (8 - ln e) from (p2split hle).symm ▸ rfl]
          exact Nat.mul_div_cancel_left _ (p2pos _)
        rw [hy, hy2, hy3, hy4, show (256 : Int32) = nI 256 from rfl, pk_shrN (by decide) _ (ln e) (sh31 (by omega)), ed, nI_add, nI_1, nI_1]
        exact hi
  exact ⟨_, key E 0 (by omega)⟩
end MWORDS
