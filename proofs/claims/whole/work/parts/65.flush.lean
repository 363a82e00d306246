section MFLUSH
variable {θ : TH} {sw : Bool} {U : UT} {V V1 V2 : VT} {n r o m c k h t : Nat} {w L T hb : Nat → Nat} {B : Nat → Int32} {O : Nat → Nat → Nat} {l : List Int32}
theorem m_flush {K : Int32 → VT → UT → Prop} {y : Int32} (hθ : OKt θ) (hU : US θ sw U) (hW : WM θ V n r w) (hS : SM θ V k m L T B O) (hB : SB m L T B O) (hm : V (tb θ + 133) k = nI m) (hm5 : m ≤ 5) (hk4 : k < 4) (hy : isZ y)
    (hE : V (tb θ + 135) k ≠ 0 → K (-1) V U)
    (hF : V (tb θ + 135) k = 0 → 1000 < n + (14 + m + sumL L m) → K (-1) V U)
    (hC : V (tb θ + 135) k = 0 → n + (14 + m + sumL L m) ≤ 1000 → ∀ V2, (∀ q, q ≠ tb θ + 126 → q ≠ tb θ + 127 → (q < tb θ + 129 ∨ tb θ + 135 < q) → V2 q = V q) → (∀ j, j ≠ 1 → V2 (tb θ + 126) j = V (tb θ + 126) j) → WM θ V2 (n + (14 + m + sumL L m)) r (apw n w (shO k m (V (tb θ + 134) k) y L T B O)) → (∀ s, s ≠ k → V2 (tb θ + 133) s = V (tb θ + 133) s ∧ V2 (tb θ + 134) s = V (tb θ + 134) s ∧ V2 (tb θ + 135) s = V (tb θ + 135) s) → V2 (tb θ + 133) k = nI 0 → V2 (tb θ + 134) k = V (tb θ + 134) k + 1 → V2 (tb θ + 135) k = y → OUTK θ k V V2 → K (nI m) V2 U) : wp_M_flush θ (tb θ + 126) (nI k) y V U K := by
  unfold wp_M_flush
  simp only [IM hθ, true_and]
  refine m_noStream hθ hU (fun q => ⟨fun e => absurd e (by decide), fun _ => hE (q k hk4 rfl)⟩) (fun k2 hk2 e h7 => ⟨fun _ => ?_, fun q => absurd rfl q⟩)
  obtain rfl : k = k2 := (nI_eq (by omega) (by omega)).mp e
  simp only [UM hU, IM hθ, exists_eq_left]
  refine ⟨by omega, vp_in_nI (by omega) (by decide), fun z hz z2 hz2 => ?_⟩
  rw [nI_clamp (by omega), hm] at hz
  rw [hz, show (14 : Int32) + nI m = nI (14 + m) from nI_add 14 m] at hz2
  rw [hz, hz2]
  refine loop2 (wl := wl_M_flush_26 θ (tb θ + 126) (nI k) y (nI m) K) m (fun j b X => b = nI (14 + m + sumL L j) ∧ X = V) ⟨rfl, rfl⟩ ?_ ?_
  · rintro f j b X hj ⟨rfl, rfl⟩ hgo
    show bl_M_flush_26 _ _ _ _ _ _ _ _ _ _ _
    unfold bl_M_flush_26
    have e16 : (16 : Int32) * nI k = nI (16 * k) := pk_mul 16 k
    simp only [UM hU, IM hθ, true_and, exists_eq_left, e16, nI_add]
    refine br_f (nI_ge hj (by omega)) ⟨by omega, vp_in_nI (by omega) (by decide), fun y2 hy2 z2 hz2 => ?_⟩
    rw [nI_clamp (by omega), (hS j (by omega)).1, nI_add] at hy2
    rw [hz2, nI_1]
    exact hgo _ _ ⟨by rw [hy2, Nat.add_assoc]; rfl, rfl⟩
  · rintro f b X ⟨rfl, rfl⟩
    show bl_M_flush_26 _ _ _ _ _ _ _ _ _ _ _
    unfold bl_M_flush_26
    have hsum := sumL_le (c := m) (L := L) (fun j hj => (hB j hj).1)
    have hn := hW.2.1
    simp only [UM hU, IM hθ, true_and, exists_eq_left, hW.1, nI_add]
    refine br_t (nI_le (Nat.le_refl _) (by omega)) (pk_le (n + (14 + m + sumL L m)) 1000 (fun hr => ?_) (fun hr => hF h7 hr))
    refine m_page (c := m) (m := m) (y := y) hθ hU hW hS hB hm (by omega) (Nat.le_refl _) hk4 hr (fun V2 p1 p2 p3 p4 p5 p6 p7 p8 p9 => ?_)
    simp only [UM hU, IM hθ, exists_eq_left]
    refine ⟨by omega, vp_in_nI (by omega) (by decide), hy, fun V3 e3 => ?_⟩
    rw [nI_clamp (by omega)] at e3
    have b3 : ∀ q, q ≠ tb θ + 135 → V3 q = V2 q := fun q hq => by rw [e3, up2_ne hq]
    refine hC h7 hr V3 (fun q x1 x2 x3 => ?_) (fun j hj => ?_) ?_ (fun s hs => ?_) ?_ ?_ ?_ ?_
    · rw [b3 q (by omega), p1 q x1 x2 (by omega)]
    · rw [b3 _ (by omega), p2 j hj]
    · unfold WM at p3 ⊢
      rw [b3 _ (by omega), b3 _ (by omega)]; exact p3
    · rw [b3 _ (by omega), b3 _ (by omega), e3, up2_ab hs, (p4 s hs).1, (p4 s hs).2, p1 (tb θ + 135) (by omega) (by omega) (by omega)]
      exact ⟨rfl, rfl, rfl⟩
    · rw [b3 _ (by omega), p5, Nat.sub_self]
    · rw [b3 _ (by omega), p6]
    · rw [e3, up2_aa]
    · unfold OUTK
      rw [b3 _ (by omega), b3 _ (by omega), b3 _ (by omega), b3 _ (by omega)]
      exact ⟨p8, p9⟩
/-- the class's send and flush, by the stream's box -/
theorem s_send {K : Int32 → VT → UT → Prop} {x y : Int32} (hθ : OKt θ) (hU : US θ sw U) (hv : V (tb θ + 0) 2 = nI h)
    (h0 : (∀ k t, k < 4 → t < 65535 → ¬ (x = nI k ∧ y = nI t)) → K (-1) V U)
    (h1 : ∀ k t, k < 4 → t < 65535 → x = nI k → y = nI t → wp_O_post θ (tb θ + (5 + 5 * k)) (tb θ + 1) (tb θ + 3) (nI h) (nI t) V U (fun r_16 V_13 U_14 => ((r_16 = (-1 : Int32) → K r_16 V_13 U_14) ∧ (¬ r_16 = (-1 : Int32) → ∀ V_18 : VT, V_18 = up2 V_13 (tb θ + 0) 2 (0 : Int32) → K r_16 V_18 U_14)))) : wp_S_send θ (tb θ + 0) x y V U K := by
  unfold wp_S_send
  simp only [UC hU, IC hθ, true_and, exists_eq_left, hv]
  rcases i_cases x 4 (by decide) with ⟨hx, hne⟩ | ⟨j, hj, rfl⟩
  · exact br_t hx (h0 (fun k t hk ht e => hne k (by omega) e.1))
  · refine br_f (nI_pos hj) (pk_le 4 j (fun q => h0 (fun k t hk ht e => ?_)) (fun q => ?_))
    · rw [nI_eq hj (by omega)] at e; omega
    · rcases i_cases y 4 (by decide) with ⟨hy, hne⟩ | ⟨t, ht, rfl⟩
      · exact br_t hy (h0 (fun k t hk ht e => hne t (by omega) e.2))
      · refine br_f (nI_pos ht) (pk_lt t 65535 (fun q2 => ?_) (fun q2 => h0 (fun k t2 hk ht2 e => ?_)))
        · obtain ⟨hob, hu⟩ := ob_k hθ hU (show j < 4 from q)
          rw [nI_clamp hj, hu]
          exact ⟨by omega, vp_in_nI (by omega) (by decide), by omega, by omega, by omega, hob.1, h1 j t q q2 rfl rfl⟩
        · have e2 := (nI_eq ht (by omega)).mp e.2; omega
theorem s_flush {K : Int32 → VT → UT → Prop} {x y : Int32} (hθ : OKt θ) (hU : US θ sw U)
    (h0 : (∀ k, k < 4 → ¬ (x = nI k)) → K (-1) V U)
    (h1 : ∀ k, k < 4 → x = nI k → wp_O_empty θ (tb θ + (5 + 5 * k)) (tb θ + 1) y V U K) : wp_S_flush θ (tb θ + 0) x y V U K := by
  unfold wp_S_flush
  simp only [UC hU, IC hθ, true_and, exists_eq_left]
  rcases i_cases x 4 (by decide) with ⟨hx, hne⟩ | ⟨j, hj, rfl⟩
  · exact br_t hx (h0 (fun k hk e => hne k (by omega) e))
  · refine br_f (nI_pos hj) (pk_lt j 4 (fun q => ?_) (fun q => h0 (fun k hk e => ?_)))
    · obtain ⟨hob, hu⟩ := ob_k hθ hU (show j < 4 from q)
      rw [nI_clamp hj, hu]
      exact ⟨by omega, vp_in_nI (by omega) (by decide), by omega, by omega, hob.1, h1 j q rfl⟩
    · rw [nI_eq hj (by omega)] at e; omega
end MFLUSH
