section GIVE2
variable {θ : TH} {sw : Bool} {U : UT} {V V1 V2 : VT} {S : ST} {k se n r fr g : Nat} {w : Nat → Nat} {e : EV}
theorem s_load {K : VT → UT → Prop} (hθ : OKt θ) (hU : US θ sw U) (hW : WV θ V n r w) (hg : g < 8) (hE : CEv θ V g e se) (hk3 : e.kd = 3) (hv : EVk r e) (hk : ∀ V2, (∀ q, q ≠ tb θ + 25 → q ≠ tb θ + 26 → V2 q = V q) → (∀ j, j ≠ 1 → j ≠ 2 → j ≠ 3 → j ≠ 4 → V2 (tb θ + 25) j = V (tb θ + 25) j) → V2 (tb θ + 25) 1 = 1 → V2 (tb θ + 25) 2 = nI e.am → V2 (tb θ + 25) 3 = nI e.tm → V2 (tb θ + 25) 4 = (if e.cl then 1 else 0) → (∀ i, i < e.am → V2 (tb θ + 26) i = nI (byW w e.pk i)) → K V2 U) : wp_H_load θ (tb θ + 25) (tb θ + 1) (tb θ + (42 + 3 * g)) V U K := by
  obtain ⟨⟨i1, i2, i3, i4, i5, i6, i7⟩, -⟩ := eb_k hθ hU hg
  obtain ⟨E1, E2, E3, E4⟩ := hE
  obtain ⟨E5, E6, E7, E8, E9⟩ := E4 hk3
  obtain ⟨v1, v2, v3⟩ := hv
  obtain ⟨v4, v5, v6, v7⟩ := v3 hk3
  have hn := hW.2.1
  have hrn := hW.2.2.2.1
  unfold wp_H_load
  simp only [i1, i2, i3, IC hθ, true_and, E8]
  refine ⟨by omega, fun W0 e0 => ?_⟩
  have e1000 : (if (1000 : Int32) < nI e.am then (1000 : Int32) else nI e.am) = nI e.am := if_neg (nI_nlt (a := 1000) (b := e.am) v4 (by decide))
  rw [e1000] at e0
  refine loop1 (wl := wl_H_load_19 θ (tb θ + 25) (tb θ + 1) (tb θ + (42 + 3 * g)) K) e.am (fun b X => (∀ q, q ≠ tb θ + 26 → X q = W0 q) ∧ ∀ i, i < b → X (tb θ + 26) i = nI (byW w e.pk i)) ⟨fun _ _ => rfl, fun i hi => absurd hi (by omega)⟩ ?_ ?_
  · rintro f b X hb ⟨x1, x2⟩ hgo
    have hWX : WV θ X n r w := by
      unfold WV at hW ⊢
      rw [x1 _ (by omega), x1 _ (by omega), e0, up2_ne (by omega), up2_ne (by omega)]; exact hW
    have h25 : X (tb θ + 25) 2 = nI e.am := by rw [x1 _ (by omega), e0, up2_aa]
    show bl_H_load_19 _ _ _ _ _ _ _ _ _
    unfold bl_H_load_19
    have ed : nI b / (15 : Int32) = nI (b / 15) := pk_div (by omega) (by decide) (by decide)
    have er : nI b - nI b / (15 : Int32) * (15 : Int32) = nI (b % 15) := pk_rem (by omega) (by decide) (by decide)
    rw [er, ed]
    simp only [i1, i2, i3, i4, i5, UC hU, IC hθ, true_and, exists_eq_left, h25]
    rw [nI_clamp (show b / 15 < 2 ^ 31 by omega), x1 (tb θ + (42 + 3 * g) + 2) (by omega), e0, up2_ne (show tb θ + (42 + 3 * g) + 2 ≠ tb θ + 25 by omega)]
    have hj := E9 (b / 15) (by omega)
    rw [show tb θ + (42 + 3 * g) + 1 + 1 = tb θ + (42 + 3 * g) + 2 from rfl] at hj
    have hv7 := v7 b hb
    rw [hj, nI_add]
    refine br_f (nI_ge hb (by omega)) ⟨by omega, by omega, by decide, vp_in_nI (by omega) (by decide), fun y hy => ⟨by omega, ?_⟩⟩
    rw [hy]
    refine s_at hθ hU hWX _ (by omega) ?_
    rw [bw_in (by omega)]
    refine ⟨vp_in_nI (by omega) (by decide), fun X2 e2 z hz => ?_⟩
    rw [nI_clamp (by omega)] at e2
    rw [hz, nI_1]
    refine hgo X2 ⟨fun q hq => by rw [e2, up2_ne hq, x1 q hq], fun i hi => ?_⟩
    rw [e2]
    by_cases q : i = b
    · subst q; rw [up2_aa]; rfl
    · rw [up2_ab q]; exact x2 i (by omega)
  · rintro f X ⟨x1, x2⟩
    have h25 : X (tb θ + 25) 2 = nI e.am := by rw [x1 _ (by omega), e0, up2_aa]
    have hev : X (tb θ + (42 + 3 * g)) = V (tb θ + (42 + 3 * g)) := by rw [x1 _ (by omega), e0, up2_ne (by omega)]
    show bl_H_load_19 _ _ _ _ _ _ _ _ _
    unfold bl_H_load_19
    simp only [i1, IC hθ, true_and, h25]
    refine br_t (nI_le (Nat.le_refl _) (by omega)) (fun X1 e1 => ?_)
    have hev1 : X1 (tb θ + (42 + 3 * g)) = V (tb θ + (42 + 3 * g)) := by rw [e1, up2_ne (by omega), hev]
    rw [hev1, E6]
    refine ⟨isZ_b _, fun X2 e2 X3 e3 => ?_⟩
    rw [hev, E5] at e1
    refine hk X3 (fun q a b => ?_) (fun j a b c d => ?_) ?_ ?_ ?_ ?_ (fun i hi => ?_)
    · rw [e3, up2_ne a, e2, up2_ne a, e1, up2_ne a, x1 q b, e0, up2_ne a]
    · rw [e3, up2_ab a, e2, up2_ab d, e1, up2_ab c, x1 _ (by omega), e0, up2_ab b]
    · rw [e3, up2_aa]
    · rw [e3, up2_ab (by decide), e2, up2_ab (by decide), e1, up2_ab (by decide), h25]
    · rw [e3, up2_ab (by decide), e2, up2_ab (by decide), e1, up2_aa]
    · rw [e3, up2_ab (by decide), e2, up2_aa]
    · rw [e3, up2_ne (by omega), e2, up2_ne (by omega), e1, up2_ne (by omega)]; exact x2 i hi
/-- the class gives an event -/
theorem s_give {K : Int32 → VT → UT → Prop} (hθ : OKt θ) (hU : US θ sw U) (hW : WV θ V n r w) (hg : g < 8) (hv5 : V (tb θ + 27) 5 = nI g) (hE : CEv θ V g e se) (hv : EVk r e)
    (hk : ∀ V2, (∀ q, q ≠ tb θ + 25 → q ≠ tb θ + 26 → q ≠ tb θ + 27 → q ≠ tb θ + 30 → V2 q = V q) → (∀ j, j ≠ 5 → V2 (tb θ + 27) j = V (tb θ + 27) j) → V2 (tb θ + 27) 5 = nI (g + 1) → V2 (tb θ + 30) 0 = nI e.kd → V2 (tb θ + 30) 1 = nI e.am → V2 (tb θ + 30) 2 = nI se → (e.kd ≠ 3 → V2 (tb θ + 25) = V (tb θ + 25) ∧ V2 (tb θ + 26) = V (tb θ + 26)) → (e.kd = 3 → V2 (tb θ + 30) 3 = nI e.tm ∧ (∀ j, j ≠ 1 → j ≠ 2 → j ≠ 3 → j ≠ 4 → V2 (tb θ + 25) j = V (tb θ + 25) j) ∧ V2 (tb θ + 25) 1 = 1 ∧ V2 (tb θ + 25) 2 = nI e.am ∧ V2 (tb θ + 25) 3 = nI e.tm ∧ V2 (tb θ + 25) 4 = (if e.cl then 1 else 0) ∧ ∀ i, i < e.am → V2 (tb θ + 26) i = nI (byW w e.pk i)) → K (nI e.kd) V2 U) : wp_R_give θ (tb θ + 27) V U K := by
  obtain ⟨⟨i1, i2, i3, i4, i5, i6, i7⟩, hu⟩ := eb_k hθ hU hg
  have hE' := hE
  obtain ⟨E1, E2, E3, E4⟩ := hE
  have hv' := hv
  obtain ⟨v1, v2, v3⟩ := hv
  unfold wp_R_give wp_E_set
  simp only [UC hU, IC hθ, true_and, exists_eq_left, hv5]
  rw [nI_clamp (by omega), hu]
  refine ⟨by omega, vp_in_nI (by omega) (by decide), by omega, fun a ha W1 e1 => ?_⟩
  subst ha
  rw [nI_1] at e1
  have c1 : W1 (tb θ + (42 + 3 * g)) = V (tb θ + (42 + 3 * g)) := by rw [e1, up2_ne (by omega)]
  rw [c1, E1, E2, E3]
  refine ⟨by omega, i1, fun W2 e2 W3 e3 W4 e4 => ⟨by omega, fun W5 e5 => ?_⟩⟩
  have b5 : ∀ q, q ≠ tb θ + 27 → q ≠ tb θ + 30 → W5 q = V q := fun q x y => by rw [e5, up2_ne y, e4, up2_ne y, e3, up2_ne y, e2, up2_ne y, e1, up2_ne x]
  have d27 : ∀ j, j ≠ 5 → W5 (tb θ + 27) j = V (tb θ + 27) j := fun j hj => by rw [e5, up2_ne (by omega), e4, up2_ne (by omega), e3, up2_ne (by omega), e2, up2_ne (by omega), e1, up2_ab hj]
  have d275 : W5 (tb θ + 27) 5 = nI (g + 1) := by rw [e5, up2_ne (by omega), e4, up2_ne (by omega), e3, up2_ne (by omega), e2, up2_ne (by omega), e1, up2_aa]
  have d0 : W5 (tb θ + 30) 0 = nI e.kd := by rw [e5, up2_ab (by decide), e4, up2_ab (by decide), e3, up2_ab (by decide), e2, up2_aa]
  have d1 : W5 (tb θ + 30) 1 = nI e.am := by rw [e5, up2_ab (by decide), e4, up2_ab (by decide), e3, up2_aa]
  have d2 : W5 (tb θ + 30) 2 = nI se := by rw [e5, up2_ab (by decide), e4, up2_aa]
  have d3 : W5 (tb θ + 30) 3 = V (tb θ + (42 + 3 * g)) 3 := by rw [e5, up2_aa, e4, up2_ne (by omega), e3, up2_ne (by omega), e2, up2_ne (by omega), c1]
  have c5 : W5 (tb θ + (42 + 3 * g)) = V (tb θ + (42 + 3 * g)) := b5 _ (by omega) (by omega)
  rw [c5, E1]
  refine (pk_eq e.kd 3 (fun q => ?_) (fun q => ?_)).symm
  · have hW5 : WV θ W5 n r w := by
      unfold WV at hW ⊢
      rw [b5 _ (by omega) (by omega), b5 _ (by omega) (by omega)]; exact hW
    refine ⟨by omega, by omega, s_load hθ hU hW5 hg (hE'.of c5 (b5 _ (by omega) (by omega)) (b5 _ (by omega) (by omega))) q hv' (fun W6 f1 f2 f3 f4 f5 f6 f7 => ?_)⟩
    rw [f1 _ (by omega) (by omega), c5, E1]
    refine hk W6 (fun q x1 x2 x3 x4 => by rw [f1 q x1 x2, b5 q x3 x4]) (fun j hj => by rw [f1 _ (by omega) (by omega), d27 j hj]) ?_ ?_ ?_ ?_ (fun h => absurd q h) (fun _ => ⟨?_, fun j j1 j2 j3 j4 => ?_, f3, f4, f5, f6, f7⟩)
    · rw [f1 _ (by omega) (by omega)]; exact d275
    · rw [f1 _ (by omega) (by omega)]; exact d0
    · rw [f1 _ (by omega) (by omega)]; exact d1
    · rw [f1 _ (by omega) (by omega)]; exact d2
    · rw [f1 _ (by omega) (by omega), d3]; exact (E4 q).1
    · rw [f2 j j1 j2 j3 j4, b5 _ (by omega) (by omega)]
  · exact hk W5 (fun q x1 x2 x3 x4 => b5 q x3 x4) d27 d275 d0 d1 d2 (fun _ => ⟨b5 _ (by omega) (by omega), b5 _ (by omega) (by omega)⟩) (fun h => absurd h q)
/-- the reference gives an event -/
theorem m_give {K : Int32 → VT → UT → Prop} {st m p : Nat} (hθ : OKt θ) (hU : US θ sw U) (hW : WM θ V n r w) (hg : g < 8) (hv14 : V (tb θ + 126) 14 = nI g) (hE : MEv θ V w g st e) (hst : e.kd = 3 → st + e.am ≤ 1000) (hv : EVk r e) (hm : V (tb θ + 126) 13 = nI m) (hm0 : 0 < m) (hm1 : m ≤ 72) (hp : V (tb θ + 136) (m - 1) = nI p) (hpn : p + 5 < n)
    (hk : ∀ V2, (∀ q, q ≠ tb θ + 126 → q ≠ tb θ + 149 → V2 q = V q) → (∀ j, j ≠ 14 → j ≠ 30 → j ≠ 31 → j ≠ 32 → j ≠ 33 → j ≠ 34 → j ≠ 36 → j ≠ 37 → j ≠ 38 → V2 (tb θ + 126) j = V (tb θ + 126) j) → V2 (tb θ + 126) 14 = nI (g + 1) → V2 (tb θ + 126) 30 = nI e.kd → V2 (tb θ + 126) 31 = nI e.am → V2 (tb θ + 126) 32 = nI (w (p + 5)) → (e.kd ≠ 3 → V2 (tb θ + 149) = V (tb θ + 149) ∧ V2 (tb θ + 126) 34 = V (tb θ + 126) 34 ∧ V2 (tb θ + 126) 36 = V (tb θ + 126) 36 ∧ V2 (tb θ + 126) 37 = V (tb θ + 126) 37 ∧ V2 (tb θ + 126) 38 = V (tb θ + 126) 38) → (e.kd = 3 → V2 (tb θ + 126) 33 = nI e.tm ∧ V2 (tb θ + 126) 34 = 1 ∧ V2 (tb θ + 126) 36 = nI e.am ∧ V2 (tb θ + 126) 37 = nI e.tm ∧ V2 (tb θ + 126) 38 = (if e.cl then 1 else 0) ∧ ∀ i, i < e.am → V2 (tb θ + 149) i = nI (byW w e.pk i)) → K (nI e.kd) V2 U) : wp_M_give θ (tb θ + 126) V U K := by
  obtain ⟨E1, E2, E3⟩ := hE
  obtain ⟨v1, v2, v3⟩ := hv
  have hn := hW.2.1
  have hin : vp_in (nI g) 8 := vp_in_nI hg (by decide)
  have hc : (nI g).toNatClampNeg = g := nI_clamp (by omega)
  unfold wp_M_give
  simp only [UM hU, IM hθ, true_and, exists_eq_left, hv14, hc]
  refine ⟨by omega, hin, fun W1 e1 => ?_⟩
  have g1 : W1 (tb θ + 126) 14 = nI g := by rw [e1, up2_ab (by decide), hv14]
  have f1 : ∀ q, q ≠ tb θ + 126 → W1 q = V q := fun q hq => by rw [e1, up2_ne hq]
  rw [g1, hc, f1 _ (by omega), E2]
  refine ⟨by omega, hin, fun W2 e2 => ?_⟩
  have g2 : W2 (tb θ + 126) 14 = nI g := by rw [e2, up2_ab (by decide), g1]
  have f2 : ∀ q, q ≠ tb θ + 126 → W2 q = V q := fun q hq => by rw [e2, up2_ne hq, f1 q hq]
  rw [g2, hc, f2 _ (by omega)]
  refine ⟨by omega, hin, fun W3 e3 => ?_⟩
  have g3 : W3 (tb θ + 126) 14 = nI g := by rw [e3, up2_ab (by decide), g2]
  have f3 : ∀ q, q ≠ tb θ + 126 → W3 q = V q := fun q hq => by rw [e3, up2_ne hq, f2 q hq]
  have m3 : W3 (tb θ + 126) 13 = nI m := by rw [e3, up2_ab (by decide), e2, up2_ab (by decide), e1, up2_ab (by decide), hm]
  have em : nI m - (1 : Int32) = nI (m - 1) := pk_sub (a := m) (b := 1) hm0
  rw [m3, em, nI_clamp (show m - 1 < 2 ^ 31 by omega), f3 _ (by omega), f3 _ (by omega), hp, show nI p + (5 : Int32) = nI (p + 5) from nI_add _ 5, nI_clamp (show p + 5 < 2 ^ 31 by omega), (hW.2.2.2.2 (p + 5) hpn).1]
  refine ⟨by omega, by omega, vp_in_nI (by omega) (by decide), vp_in_nI (by omega) (by decide), fun W4 e4 => ?_⟩
  rw [E1] at e1
  have g4 : W4 (tb θ + 126) 14 = nI g := by rw [e4, up2_ab (by decide), g3]
  have f4 : ∀ q, q ≠ tb θ + 126 → W4 q = V q := fun q hq => by rw [e4, up2_ne hq, f3 q hq]
  have k4 : W4 (tb θ + 126) 30 = nI e.kd := by rw [e4, up2_ab (by decide), e3, up2_ab (by decide), e2, up2_ab (by decide), e1, up2_aa]
  have a4 : W4 (tb θ + 126) 31 = nI e.am := by rw [e4, up2_ab (by decide), e3, up2_ab (by decide), e2, up2_aa]
  have t4 : W4 (tb θ + 126) 33 = V (tb θ + 145) g := by rw [e4, up2_ab (by decide), e3, up2_aa]
  have s4 : W4 (tb θ + 126) 32 = nI (w (p + 5)) := by rw [e4, up2_aa]
  have o4 : ∀ j, j ≠ 30 → j ≠ 31 → j ≠ 32 → j ≠ 33 → W4 (tb θ + 126) j = V (tb θ + 126) j := fun j x1 x2 x3 x4 => by rw [e4, up2_ab x3, e3, up2_ab x4, e2, up2_ab x2, e1, up2_ab x1]
  rw [k4]
  refine (pk_eq e.kd 3 (fun q => ?_) (fun q => ?_)).symm
  · obtain ⟨E5, E6, E7, E8⟩ := E3 q
    obtain ⟨v4, v5, v6, v7⟩ := v3 q
    have hst := hst q
    intro W5 e5 W6 e6 W7 e7
    have h6 : W5 (tb θ + 126) 31 = nI e.am := by rw [e5, up2_ab (by decide), a4]
    rw [h6] at e6
    have h7 : W6 (tb θ + 126) 33 = nI e.tm := by rw [e6, up2_ab (by decide), e5, up2_ab (by decide), t4, E5]
    rw [h7] at e7
    have g7 : W7 (tb θ + 126) 14 = nI g := by rw [e7, up2_ab (by decide), e6, up2_ab (by decide), e5, up2_ab (by decide), g4]
    have f7 : ∀ q, q ≠ tb θ + 126 → W7 q = V q := fun q hq => by rw [e7, up2_ne hq, e6, up2_ne hq, e5, up2_ne hq, f4 q hq]
    rw [g7, hc, f7 _ (by omega), E6]
    refine ⟨by omega, hin, isZ_b _, fun W8 e8 => ?_⟩
    have f8 : ∀ q, q ≠ tb θ + 126 → W8 q = V q := fun q hq => by rw [e8, up2_ne hq, f7 q hq]
    have g8 : W8 (tb θ + 126) 14 = nI g := by rw [e8, up2_ab (by decide), g7]
    have l8 : W8 (tb θ + 126) 36 = nI e.am := by rw [e8, up2_ab (by decide), e7, up2_ab (by decide), e6, up2_aa]
    refine loop1 (wl := wl_M_give_105 θ (tb θ + 126) K) e.am (fun b X => (∀ q, q ≠ tb θ + 149 → X q = W8 q) ∧ ∀ i, i < b → X (tb θ + 149) i = nI (byW w e.pk i)) ⟨fun _ _ => rfl, fun i hi => absurd hi (by omega)⟩ ?_ ?_
    · rintro f b X hb ⟨x1, x2⟩ hgo
      have h126 : X (tb θ + 126) = W8 (tb θ + 126) := x1 _ (by omega)
      show bl_M_give_105 _ _ _ _ _ _ _
      unfold bl_M_give_105
      simp only [UM hU, IM hθ, true_and, exists_eq_left, h126, l8, g8, hc]
      rw [x1 (tb θ + 147) (by omega), f8 _ (by omega), E7, nI_add, nI_clamp (show st + b < 2 ^ 31 by omega), x1 (tb θ + 148) (by omega), f8 _ (by omega), E8 b hb]
      refine br_f (nI_ge hb (by omega)) ⟨by omega, by omega, by omega, hin, vp_in_nI (by omega) (by decide), vp_in_nI (by omega) (by decide), fun X2 e2 z hz => ?_⟩
      rw [nI_clamp (by omega)] at e2
      rw [hz, nI_1]
      refine hgo X2 ⟨fun q hq => by rw [e2, up2_ne hq, x1 q hq], fun i hi => ?_⟩
      rw [e2]
      by_cases q : i = b
      · subst q; rw [up2_aa]
      · rw [up2_ab q]; exact x2 i (by omega)
    · rintro f X ⟨x1, x2⟩
      have h126 : X (tb θ + 126) = W8 (tb θ + 126) := x1 _ (by omega)
      show bl_M_give_105 _ _ _ _ _ _ _
      unfold bl_M_give_105
      simp only [IM hθ, true_and, h126, l8, g8, nI_1]
      refine br_t (nI_le (Nat.le_refl _) (by omega)) (fun Y eY => ?_)
      have oY : ∀ j, j ≠ 14 → Y (tb θ + 126) j = W8 (tb θ + 126) j := fun j hj => by rw [eY, up2_ab hj, h126]
      have kY : Y (tb θ + 126) 30 = nI e.kd := by rw [oY 30 (by decide), e8, up2_ab (by decide), e7, up2_ab (by decide), e6, up2_ab (by decide), e5, up2_ab (by decide), k4]
      rw [kY]
      refine hk Y (fun q x y => by rw [eY, up2_ne x, x1 q y, f8 q x]) (fun j y1 y2 y3 y4 y5 y6 y7 y8 y9 => ?_) ?_ kY ?_ ?_ (fun h => absurd q h) (fun _ => ⟨?_, ?_, ?_, ?_, ?_, fun i hi => ?_⟩)
      · rw [oY j y1, e8, up2_ab y9, e7, up2_ab y8, e6, up2_ab y7, e5, up2_ab y6, o4 j y2 y3 y4 y5]
      · rw [eY, up2_aa]
      · rw [oY 31 (by decide), e8, up2_ab (by decide), e7, up2_ab (by decide), e6, up2_ab (by decide), e5, up2_ab (by decide), a4]
      · rw [oY 32 (by decide), e8, up2_ab (by decide), e7, up2_ab (by decide), e6, up2_ab (by decide), e5, up2_ab (by decide), s4]
      · rw [oY 33 (by decide), e8, up2_ab (by decide), e7, up2_ab (by decide), h7]
      · rw [oY 34 (by decide), e8, up2_ab (by decide), e7, up2_ab (by decide), e6, up2_ab (by decide), e5, up2_aa]
      · rw [oY 36 (by decide), l8]
      · rw [oY 37 (by decide), e8, up2_ab (by decide), e7, up2_aa]
      · rw [oY 38 (by decide), e8, up2_aa]
      · rw [eY, up2_ne (by omega)]; exact x2 i hi
  · intro W5 e5
    have o5 : ∀ j, j ≠ 14 → W5 (tb θ + 126) j = W4 (tb θ + 126) j := fun j hj => by rw [e5, up2_ab hj]
    rw [o5 30 (by decide), k4]
    rw [g4, nI_1] at e5
    refine hk W5 (fun q x y => by rw [e5, up2_ne x, f4 q x]) (fun j y1 y2 y3 y4 y5 y6 y7 y8 y9 => by rw [o5 j y1, o4 j y2 y3 y4 y5]) (by rw [e5, up2_aa]) (by rw [o5 30 (by decide), k4]) (by rw [o5 31 (by decide), a4]) (by rw [o5 32 (by decide), s4]) (fun _ => ⟨by rw [e5, up2_ne (by omega), f4 _ (by omega)], ?_, ?_, ?_, ?_⟩) (fun h => absurd h q)
    · rw [o5 34 (by decide), o4 34 (by decide) (by decide) (by decide) (by decide)]
    · rw [o5 36 (by decide), o4 36 (by decide) (by decide) (by decide) (by decide)]
    · rw [o5 37 (by decide), o4 37 (by decide) (by decide) (by decide) (by decide)]
    · rw [o5 38 (by decide), o4 38 (by decide) (by decide) (by decide) (by decide)]
end GIVE2
