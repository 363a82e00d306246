-- the values of a block, the reference
section MVALS
variable {θ : TH} {V : VT} {U : UT} {sw : Bool} {p : PK} {v : VD} {c B la : Nat} {us : Nat → Bool} {bk : Nat → BD} {s : RS}
theorem m_rows {K : VT → UT → Prop} (hθ : OKt θ) (hU : US θ sw U) (hla : la ≤ 48) (h53 : V (tb θ + 126) 53 = nI la) (h41 : V (tb θ + 126) 41 = nI c) (hvm : VPM θ V la v) (hc : c ≤ 2) (hc0 : 0 < c) (hmo : v.mo ≤ 2) (h158 : ∀ ch, ch < 2 → V (tb θ + 158) ch = bZ (us ch)) (hus : c = 1 → us 1 = false) (h : ∀ W, (∀ q, q ≠ tb θ + 126 → q ≠ tb θ + 164 → W q = V q) → (∀ j, j ≠ 65 → W (tb θ + 126) j = V (tb θ + 126) j) → W (tb θ + 126) 65 = nI (vR v c us) → (v.mo ≠ 2 → ∀ r, r < vR v c us → W (tb θ + 164) r = nI (vRc v us r)) → K (mS θ W s) U) : wp_M_findRows θ (tb θ + 126) (mS θ V s) U K := by
  obtain ⟨v1, v2, v3, v4, v5, v6, v7, v8⟩ := hvm
  have i30 : nI la + (30 : Int32) = nI (la + 30) := nI_add la 30
  have i40 : nI la + (40 : Int32) = nI (la + 40) := nI_add la 40
  have e126 : ∀ X t j x, X (tb θ + 126) j = x → j ≠ 39 → j ≠ 40 → mS θ X t (tb θ + 126) j = x := fun X t j x hX a b => by rw [mS_j a b]; exact hX
  -- channel by channel
  have loop : ∀ x1 x2 : Int32, x1 = bZ (vAny us) → x2 = bZ (vAny us && v.jo) → wb_M_findRows_49 θ (tb θ + 126) x1 x2 K (mS θ V s) U := by
    intro x1 x2 hx1 hx2
    unfold wb_M_findRows_49
    simp only [IM hθ, true_and]
    intro V17 h17
    rw [mS_upj (by decide) (by decide)] at h17
    subst h17
    refine loop1 c (fun k V1 => ∃ W, V1 = mS θ W s ∧ (∀ q, q ≠ tb θ + 126 → q ≠ tb θ + 164 → W q = V q) ∧ (∀ j, j ≠ 65 → W (tb θ + 126) j = V (tb θ + 126) j) ∧ W (tb θ + 126) 65 = nI ((if vOn v us 0 = true ∧ 0 < k then 1 else 0) + (if k = 2 ∧ vOn v us 1 = true then 1 else 0)) ∧ ∀ r, r < (if vOn v us 0 = true ∧ 0 < k then 1 else 0) + (if k = 2 ∧ vOn v us 1 = true then 1 else 0) → W (tb θ + 164) r = nI (vRc v us r)) ⟨_, rfl, fun q a _ => up2_ne a, fun j hj => up2_ab hj, (by rw [up2_aa, if_neg (by omega), if_neg (by omega)]; rfl), fun r hr => (by rw [if_neg (by omega), if_neg (by omega)] at hr; omega)⟩ (fun f k V1 hk hJ hgo => ?_) (fun f V1 hJ => ?_)
    · obtain ⟨W, rfl, w1, w2, w3, w4⟩ := hJ
      have hk01 : k = 0 ∨ k = 1 := by omega
      show bl_M_findRows_57 _ _ _ _ _ _ _ _ _
      unfold bl_M_findRows_57
      simp only [UM hU, IM hθ, true_and, exists_eq_left]
      rw [e126 W _ 41 (nI c) (by rw [w2 41 (by decide)]; exact h41) (by decide) (by decide), nI_clamp (show k < 2 ^ 31 by omega), mS_ne (show tb θ + 158 ≠ tb θ + 126 by omega), w1 (tb θ + 158) (by omega) (by omega), h158 k (by omega)]
      refine br_f (nI_ge hk (by omega)) ⟨by omega, vp_in_nI (by omega) (by decide), ?_⟩
      have on : vOn v us k = true → wb_M_findRows_78 θ (tb θ + 126) x1 x2 (nI k) (wl_M_findRows_57 θ (tb θ + 126) x1 x2 K f) K (mS θ W s) U := by
        intro hon
        unfold wb_M_findRows_78
        simp only [UM hU, IM hθ, true_and, exists_eq_left]
        have hnn : (if vOn v us 0 = true ∧ 0 < k then 1 else 0) + (if k = 2 ∧ vOn v us 1 = true then 1 else 0) = if vOn v us 0 = true ∧ 0 < k then 1 else 0 := by
          rw [if_neg (show ¬ (k = 2 ∧ vOn v us 1 = true) by omega)]; rfl
        have hnl : (if vOn v us 0 = true ∧ 0 < k then 1 else 0) < 2 := by split <;> omega
        rw [hnn] at w3 w4
        rw [e126 W _ 65 _ w3 (by decide) (by decide), nI_clamp (by omega)]
        refine ⟨by omega, vp_in_nI hnl (by decide), fun V19 h19 V20 h20 y2 e2 => ?_⟩
        rw [mS_up (by omega)] at h19
        rw [h19, mS_j (by decide) (by decide), up2_ne (by omega), w3, nI_1, mS_upj (by decide) (by decide)] at h20
        rw [h20, e2, nI_1]
        have e3 : (if vOn v us 0 = true ∧ 0 < k + 1 then 1 else 0) + (if k + 1 = 2 ∧ vOn v us 1 = true then 1 else 0) = (if vOn v us 0 = true ∧ 0 < k then 1 else 0) + 1 := by
          rcases hk01 with rfl | rfl
          · simp [hon]
          · simp [hon]
        refine hgo _ ⟨_, rfl, fun q a b => ?_, fun j hj => ?_, ?_, fun r hr => ?_⟩
        · rw [up2_ne a, up2_ne b]; exact w1 q a b
        · rw [up2_ab hj, up2_ne (by omega)]; exact w2 j hj
        · rw [up2_aa, e3]
        · rw [up2_ne (by omega)]
          rw [e3] at hr
          by_cases er : r = (if vOn v us 0 = true ∧ 0 < k then 1 else 0)
          · rw [er, up2_aa]
            congr 1
            unfold vRc
            rcases hk01 with rfl | rfl
            · simp [hon]
            · cases h0 : vOn v us 0 <;> simp
          · rw [up2_ab er]; exact w4 r (by omega)
      have off : vOn v us k = false → ∀ y : Int32, y = nI k + 1 → wl_M_findRows_57 θ (tb θ + 126) x1 x2 K f y (mS θ W s) U := by
        intro hon y e2
        rw [e2, nI_1]
        refine hgo _ ⟨W, rfl, w1, w2, ?_, ?_⟩
        · rw [w3]; congr 1
          rcases hk01 with rfl | rfl
          · simp [hon]
          · simp [hon]
        · intro r hr
          refine w4 r ?_
          rcases hk01 with rfl | rfl
          · simp [hon] at hr
          · simpa [hon] using hr
      have hany : us k = true → vAny us = true := by
        intro e
        rcases hk01 with rfl | rfl
        · simp [vAny, e]
        · simp [vAny, e]
      cases huk : us k
      · refine ⟨fun z => absurd rfl z, fun _ => ⟨fun z => off ?_, fun z => on ?_⟩⟩
        · rw [hx2] at z
          have := bZ_0.1 z
          unfold vOn
          cases hj : v.jo
          · exact huk
          · rw [hj, Bool.and_true] at this; exact this
        · have : (vAny us && v.jo) = true := by
            cases e : (vAny us && v.jo)
            · rw [hx2, e] at z; exact absurd rfl z
            · rfl
          simp only [Bool.and_eq_true] at this
          unfold vOn; rw [if_pos this.2]; exact this.1
      · refine ⟨fun _ => on ?_, fun z => absurd z (by decide)⟩
        unfold vOn
        cases hj : v.jo
        · exact huk
        · exact hany huk
    · obtain ⟨W, rfl, w1, w2, w3, w4⟩ := hJ
      show bl_M_findRows_57 _ _ _ _ _ _ _ _ _
      unfold bl_M_findRows_57
      simp only [UM hU, IM hθ, true_and, exists_eq_left]
      rw [e126 W _ 41 (nI c) (by rw [w2 41 (by decide)]; exact h41) (by decide) (by decide), e126 W _ 53 (nI la) (by rw [w2 53 (by decide)]; exact h53) (by decide) (by decide), i30, nI_clamp (show la + 30 < 2 ^ 31 by omega), mS_ne (show tb θ + 157 ≠ tb θ + 126 by omega), w1 (tb θ + 157) (by omega) (by omega), v1]
      have stay : (v.mo ≠ 2 ∨ vAny us = false) → wb_M_findRows_129 θ (tb θ + 126) (tb θ + 126) K (mS θ W s) U := by
        intro q
        unfold wb_M_findRows_129
        simp only [IM hθ, true_and]
        intro V36 h36
        rw [up2_self rfl] at h36
        rw [h36]
        have e : vR v c us = (if vOn v us 0 = true ∧ 0 < c then 1 else 0) + (if c = 2 ∧ vOn v us 1 = true then 1 else 0) := by
          unfold vR
          by_cases hm2 : v.mo = 2
          · have ha : vAny us = false := by rcases q with q | q; exact absurd hm2 q; exact q
            have u0 : us 0 = false := by
              cases e0 : us 0
              · rfl
              · unfold vAny at ha; rw [e0] at ha; cases ha
            have u1 : us 1 = false := by
              cases e1 : us 1
              · rfl
              · unfold vAny at ha; rw [e1, Bool.or_true] at ha; cases ha
            have on0 : vOn v us 0 = false := by unfold vOn; split; exact ha; exact u0
            have on1 : vOn v us 1 = false := by unfold vOn; split; exact ha; exact u1
            rw [if_pos hm2, ha, on0, on1]; simp
          · rw [if_neg hm2]
            congr 1
            simp [hc0]
        exact h W w1 w2 (by rw [e]; exact w3) (fun _ r hr => w4 r (by rw [← e]; exact hr))
      refine br_t (nI_le (Nat.le_refl _) (by omega)) ⟨by omega, vp_in_nI (by omega) (by decide), fun z => stay (Or.inl (fun w => z (by rw [w]; rfl))), fun z => ⟨fun z2 => stay (Or.inr ?_), fun z2 V26 h26 => ?_⟩⟩
      · rw [hx1] at z2; exact bZ_0.1 z2
      · have hm2 : v.mo = 2 := (nI_eq (b := 2) (by omega) (by decide)).1 z
        have ha : vAny us = true := by
          cases e : vAny us
          · rw [hx1, e] at z2; exact absurd rfl z2
          · rfl
        rw [mS_upj (by decide) (by decide)] at h26
        rw [h26]
        refine h _ (fun q a b => by rw [up2_ne a]; exact w1 q a b) (fun j hj => by rw [up2_ab hj]; exact w2 j hj) ?_ (fun w => absurd hm2 w)
        rw [up2_aa]; unfold vR; rw [if_pos hm2, if_pos ha]; rfl
  have mid : ∀ z0 : Int32, z0 = bZ (vAny us) → wb_M_findRows_23 θ (tb θ + 126) z0 K (mS θ V s) U := by
    intro z0 hz0
    unfold wb_M_findRows_23 wb_M_findRows_48
    simp only [UM hU, IM hθ, true_and, exists_eq_left]
    rw [e126 V _ 53 (nI la) h53 (by decide) (by decide), i40, nI_clamp (show la + 40 < 2 ^ 31 by omega), mS_ne (show tb θ + 157 ≠ tb θ + 126 by omega), v8]
    cases ha : vAny us
    · rw [ha] at hz0 loop
      exact ⟨fun _ => loop _ 0 hz0 rfl, fun z => absurd hz0 z⟩
    · rw [ha] at hz0 loop
      refine ⟨fun z => absurd (hz0.symm.trans z) (by decide), fun _ => ⟨by omega, vp_in_nI (by omega) (by decide), fun z => loop _ 0 hz0 ?_, fun z => loop _ 1 hz0 ?_⟩⟩
      · cases hj : v.jo
        · rfl
        · rw [hj] at z; exact absurd rfl z
      · rw [bZ_1.1 z]; rfl
  unfold wp_M_findRows wb_M_findRows_18
  simp only [UM hU, IM hθ, true_and, exists_eq_left]
  rw [show ((0 : Int32).toNatClampNeg) = 0 from rfl, show ((1 : Int32).toNatClampNeg) = 1 from rfl, mS_ne (show tb θ + 158 ≠ tb θ + 126 by omega), h158 0 (by decide), h158 1 (by decide)]
  refine ⟨by omega, vp_in_nI (n := 0) (by decide) (by decide), fun z => mid 1 ?_, fun z => ⟨vp_in_nI (n := 1) (by decide) (by decide), fun z2 => mid 0 ?_, fun z2 => mid 1 ?_⟩⟩
  · have : us 0 = true := by
      cases e : us 0
      · rw [e] at z; exact absurd rfl z
      · rfl
    simp [vAny, this, bZ]
  · simp [vAny, bZ_0.1 z, bZ_0.1 z2, bZ]
  · have : us 1 = true := by
      cases e : us 1
      · rw [e] at z2; exact absurd rfl z2
      · rfl
    simp [vAny, this, bZ]
end MVALS
