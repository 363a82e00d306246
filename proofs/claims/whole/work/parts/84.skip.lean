section SKIP
variable {θ : TH} {sw : Bool} {U : UT} {V V1 V2 : VT} {n r : Nat} {w : Nat → Nat}
theorem s_skip {K : Int32 → VT → UT → Prop} (hθ : OKt θ) (hU : US θ sw U) (hW : WV θ V n r w) (hp : PS n w r 0) (hk : ∀ q V2, SK n w r q → (∀ x, x ≠ tb θ + 1 → x ≠ tb θ + 30 → V2 x = V x) → (∀ j, j ≠ 2 → V2 (tb θ + 1) j = V (tb θ + 1) j) → V2 (tb θ + 1) 2 = nI q → V2 (tb θ + 30) 0 = 1 → V2 (tb θ + 30) 1 = nI (q - r) → V2 (tb θ + 30) 2 = -1 → K 1 V2 U) : wp_R_skip θ (tb θ + 27) V U K := by
  have hn := hW.2.1
  have hlt := PS_lt hp
  have hv := hW.2.2.1
  have hv1 := hW.1
  have fin : ∀ p, r < p → p ≤ n → (∀ i, r < i → i < p → PS n w i 0) → (p = n ∨ PS n w p 1 ∨ PS n w p 2) → wb_R_skip_39 θ (tb θ + 27) (nI p) K V U := by
    intro p h1 h2 h3 h4
    unfold wb_R_skip_39 wp_E_set
    simp only [UC hU, IC hθ, true_and, hv]
    rw [pk_sub (by omega)]
    refine ⟨by omega, by omega, fun W1 e1 W2 e2 W3 e3 => ⟨by omega, fun W4 e4 => ?_⟩⟩
    refine hk p W4 ⟨h1, h2, h3, h4⟩ (fun x a b => ?_) (fun j hj => ?_) ?_ ?_ ?_ ?_
    · rw [e4, up2_ne a, e3, up2_ne b, e2, up2_ne b, e1, up2_ne b]
    · rw [e4, up2_ab hj, e3, up2_ne (by omega), e2, up2_ne (by omega), e1, up2_ne (by omega)]
    · rw [e4, up2_aa]
    · rw [e4, up2_ne (by omega), e3, up2_ab (by decide), e2, up2_ab (by decide), e1, up2_aa]
    · rw [e4, up2_ne (by omega), e3, up2_ab (by decide), e2, up2_aa]
    · rw [e4, up2_ne (by omega), e3, up2_aa]
  have key : ∀ d p, p + d = n → r < p → (∀ i, r < i → i < p → PS n w i 0) → wl_R_skip_10 θ (tb θ + 27) K (d + 1) (nI p) V U := by
    intro d
    induction d with
    | zero =>
      intro p e h1 h2
      show bl_R_skip_10 _ _ _ _ _ _ _
      unfold bl_R_skip_10
      simp only [UC hU, IC hθ, true_and, hv1]
      exact ⟨by omega, br_t (nI_le (by omega) (by omega)) (fin p h1 (by omega) h2 (Or.inl (by omega)))⟩
    | succ d ih =>
      intro p e h1 h2
      show bl_R_skip_10 _ _ _ _ _ _ _
      unfold bl_R_skip_10
      simp only [UC hU, IC hθ, true_and, hv1]
      refine ⟨by omega, br_f (nI_ge (by omega) (by omega)) (s_pageAt hθ hU hW p (by omega) (fun hb => ?_) (fun hb => ?_) (fun hb => ?_))⟩
      · refine ⟨fun q => absurd rfl q, fun _ y hy => ?_⟩
        rw [hy, nI_1]
        refine ih (p + 1) (by omega) (by omega) (fun i a b => ?_)
        by_cases q : i = p
        · subst q; exact hb
        · exact h2 i a (by omega)
      · exact ⟨fun _ => fin p h1 (by omega) h2 (Or.inr (Or.inl hb)), fun q => absurd q (by decide)⟩
      · obtain ⟨-, hle, -⟩ := PS_page (fun i hi => (hW.2.2.2.2 i hi).2) hb
        exact ⟨fun _ => fin p h1 (by omega) h2 (Or.inr (Or.inr hb)), fun q => absurd q (nI_nm1 (by omega))⟩
  unfold wp_R_skip
  simp only [UC hU, IC hθ, true_and, hv, nI_1]
  refine ⟨by omega, fun y hy => ?_⟩
  rw [hy]
  exact ⟨_, key (n - (r + 1)) (r + 1) (by omega) (by omega) (fun i a b => absurd b (by omega))⟩
theorem m_skip {K : Int32 → VT → UT → Prop} (hθ : OKt θ) (hU : US θ sw U) (hW : WM θ V n r w) (hp : PS n w r 0) (hk : ∀ q V2, SK n w r q → (∀ x, x ≠ tb θ + 126 → V2 x = V x) → (∀ j, j ≠ 2 → j ≠ 30 → j ≠ 31 → V2 (tb θ + 126) j = V (tb θ + 126) j) → V2 (tb θ + 126) 2 = nI q → V2 (tb θ + 126) 30 = 1 → V2 (tb θ + 126) 31 = nI (q - r) → K 1 V2 U) : ∃ m, wl_M_next_51 θ (tb θ + 126) K m (nI (r + 1)) V U := by
  have hn := hW.2.1
  have hlt := PS_lt hp
  have hv := hW.2.2.1
  have hv1 := hW.1
  have fin : ∀ p, r < p → p ≤ n → (∀ i, r < i → i < p → PS n w i 0) → (p = n ∨ PS n w p 1 ∨ PS n w p 2) → wb_M_next_73 θ (tb θ + 126) (nI p) K V U := by
    intro p h1 h2 h3 h4
    unfold wb_M_next_73
    simp only [IM hθ, true_and]
    intro W1 e1 W2 e2 W3 e3
    have h2' : W1 (tb θ + 126) 2 = nI r := by rw [e1, up2_ab (by decide), hv]
    rw [h2', pk_sub (by omega)] at e2
    refine hk p W3 ⟨h1, h2, h3, h4⟩ (fun x a => ?_) (fun j a b c => ?_) ?_ ?_ ?_
    · rw [e3, up2_ne a, e2, up2_ne a, e1, up2_ne a]
    · rw [e3, up2_ab a, e2, up2_ab c, e1, up2_ab b]
    · rw [e3, up2_aa]
    · rw [e3, up2_ab (by decide), e2, up2_ab (by decide), e1, up2_aa]
    · rw [e3, up2_ab (by decide), e2, up2_aa]
  have key : ∀ d p, p + d = n → r < p → (∀ i, r < i → i < p → PS n w i 0) → wl_M_next_51 θ (tb θ + 126) K (d + 1) (nI p) V U := by
    intro d
    induction d with
    | zero =>
      intro p e h1 h2
      show bl_M_next_51 _ _ _ _ _ _ _
      unfold bl_M_next_51
      simp only [IM hθ, true_and, hv1]
      exact br_t (nI_le (by omega) (by omega)) (fin p h1 (by omega) h2 (Or.inl (by omega)))
    | succ d ih =>
      intro p e h1 h2
      show bl_M_next_51 _ _ _ _ _ _ _
      unfold bl_M_next_51
      simp only [IM hθ, true_and, hv1]
      refine br_f (nI_ge (by omega) (by omega)) (m_state hθ hU hW p (by omega) (fun hb => ?_) (fun hb => ?_) (fun hb => ?_))
      · refine ⟨fun q => absurd rfl q, fun _ y hy => ?_⟩
        rw [hy, nI_1]
        refine ih (p + 1) (by omega) (by omega) (fun i a b => ?_)
        by_cases q : i = p
        · subst q; exact hb
        · exact h2 i a (by omega)
      · exact ⟨fun _ => fin p h1 (by omega) h2 (Or.inr (Or.inl hb)), fun q => absurd q (by decide)⟩
      · exact ⟨fun _ => fin p h1 (by omega) h2 (Or.inr (Or.inr hb)), fun q => absurd q (by decide)⟩
  exact ⟨_, key (n - (r + 1)) (r + 1) (by omega) (by omega) (fun i a b => absurd b (by omega))⟩
end SKIP
