-- the plan of the curves is read, the reference: places and the whole
section MCLOAD
variable {θ : TH} {V : VT} {U : UT} {sw : Bool} {p : PK} {s u : RS} {B la : Nat}
theorem m_points {K : Int32 → VT → UT → Prop} (hθ : OKt θ) (hU : US θ sw U) (hla : la ≤ 48) (hp : MP θ V p) (hs : s.1 ≤ 8 * p.L) (hP : V (tb θ + 157) (la + 1) = nI (cvP p s)) (hl : ∀ k, k < cvP p s → V (tb θ + 157) (la + 2 + k) = nI (cvl p s k)) (hz : ∀ q, q < cvC p s → V (tb θ + 157) (la + 5 + q) = nI (kz p (cvk p s q))) (h : ∀ W, FB V W (tb θ + 157) (la + 15) 15 → W (tb θ + 157) (la + 15) = nI (cvN p s) → (∀ i, i < cvN p s → W (tb θ + 157) (la + 16 + i) = nI (cvp p s i)) → (DST (cvp p s) (cvN p s) → K 1 (mS θ W (cv6 p s)) U) ∧ (¬ DST (cvp p s) (cvN p s) → K 0 (mS θ W (cv6 p s)) U)) : wp_M_points θ (tb θ + 126) (nI la) (mS θ V (cv4 p s)) U K := by
  have i1 : nI la + (1 : Int32) = nI (la + 1) := nI_add la 1
  have i2 : nI la + (2 : Int32) = nI (la + 2) := nI_add la 2
  have i5 : nI la + (5 : Int32) = nI (la + 5) := nI_add la 5
  have i15 : nI la + (15 : Int32) = nI (la + 15) := nI_add la 15
  have i16 : nI la + (16 : Int32) = nI (la + 16) := nI_add la 16
  unfold wp_M_points
  simp only [UM hU, IM hθ, true_and]
  refine m_read hθ hU hp (cvk_ok hs _) (k := 2) (by decide) ?_
  intro y hy
  rw [show (2 : Int32) = nI 2 from rfl, nI_add] at hy
  have hy2 : y = nI (cvw p s) := hy
  clear hy
  subst hy2
  simp only [UM hU, IM hθ, true_and, exists_eq_left, i16, nI_1]
  have hw := cvw_b (p := p) (s := s)
  have hw5 : 2 ^ cvw p s ≤ 2 ^ 5 := p2le cvw_b.2
  have hPl := cvP_lt (p := p) (s := s)
  have hmP := cvm_le (p := p) (s := s) (cvP p s)
  have hN : cvN p s = 2 + cvm p s (cvP p s) := rfl
  refine ⟨by omega, vp_in_nI (by omega) (by decide), fun V10 h10 => ⟨vp_in_nI (by omega) (by decide), fun V12 h12 => ?_⟩⟩
  rw [nI_clamp (by omega), mS_up (by omega)] at h10
  rw [h10, nI_clamp (by omega), mS_up (by omega), show (1 : Int32) = nI 1 from rfl, pk_shlN _ (cvw p s) (sh31 (by omega)) (by omega), Nat.one_mul] at h12
  subst h12
  have f1 : FB V (up2 (up2 V (tb θ + 157) (la + 16) 0) (tb θ + 157) (la + 16 + 1) (nI (2 ^ cvw p s))) (tb θ + 157) (la + 15) 15 := (FB.refl.up (by omega) (by omega)).up (by omega) (by omega)
  have f4 : ∀ i, i < 2 → up2 (up2 V (tb θ + 157) (la + 16) 0) (tb θ + 157) (la + 16 + 1) (nI (2 ^ cvw p s)) (tb θ + 157) (la + 16 + i) = nI (cvp p s i) := by
    intro i hi
    have : i = 0 ∨ i = 1 := by omega
    rcases this with rfl | rfl
    · rw [up2_ab (by omega), up2_aa]; rfl
    · rw [up2_aa]; rfl
  generalize up2 (up2 V (tb θ + 157) (la + 16) 0) (tb θ + 157) (la + 16 + 1) (nI (2 ^ cvw p s)) = W0 at f1 f4 ⊢
  refine loop2 (a := (2 : Int32)) (cvP p s) (fun k b V1 => b = nI (2 + cvm p s k) ∧ ∃ W, V1 = mS θ W (itS p (cvw p s) (cv5 p s) (cvm p s k)) ∧ FB V W (tb θ + 157) (la + 15) 15 ∧ (∀ i, i < 2 + cvm p s k → W (tb θ + 157) (la + 16 + i) = nI (cvp p s i))) ⟨rfl, W0, rfl, f1, f4⟩ (fun f k b V1 hk hJ hgo => ?_) (fun f b V1 hJ => ?_)
  · obtain ⟨rfl, W, rfl, g1, g4⟩ := hJ
    show bl_M_points_37 _ _ _ _ _ _ _ _ _ _
    unfold bl_M_points_37
    simp only [UM hU, IM hθ, true_and, exists_eq_left, i1, i2, i5, i15, nI_add]
    have hml := cvm_le (p := p) (s := s) k
    have hcl := cvl_lt (p := p) (s := s) k
    have hkz := kz_b (p := p) (u := cvk p s (cvl p s k))
    have hmono := cvm_mono (p := p) (s := s) (show k + 1 ≤ cvP p s from hk)
    have hmk : cvm p s (k + 1) = cvm p s k + kz p (cvk p s (cvl p s k)) := rfl
    rw [mS_ne (show tb θ + 157 ≠ tb θ + 126 by omega), nI_clamp (show la + 1 < 2 ^ 31 by omega), g1.2 (la + 1) (by omega), hP, nI_clamp (show la + 2 + k < 2 ^ 31 by omega), g1.2 (la + 2 + k) (by omega), hl k hk, nI_add, nI_clamp (show la + 5 + cvl p s k < 2 ^ 31 by omega), g1.2 (la + 5 + cvl p s k) (by omega), hz _ (cvn_gt hk)]
    refine ⟨by omega, vp_in_nI (by omega) (by decide), br_f (nI_ge hk (by omega)) ⟨vp_in_nI (by omega) (by decide), vp_in_nI (by omega) (by decide), fun y hy => ?_⟩⟩
    subst hy
    refine loop2 (kz p (cvk p s (cvl p s k))) (fun i b V1 => b = nI (2 + cvm p s k + i) ∧ ∃ W, V1 = mS θ W (itS p (cvw p s) (cv5 p s) (cvm p s k + i)) ∧ FB V W (tb θ + 157) (la + 15) 15 ∧ (∀ j, j < 2 + cvm p s k + i → W (tb θ + 157) (la + 16 + j) = nI (cvp p s j))) ⟨rfl, W, rfl, g1, g4⟩ (fun f2 i b V1 hi hJ hgo2 => ?_) (fun f2 b V1 hJ => ?_)
    · obtain ⟨rfl, W, rfl, g1, g4⟩ := hJ
      show bl_M_points_75 _ _ _ _ _ _ _ _ _ _ _ _ _
      unfold bl_M_points_75
      simp only [UM hU, IM hθ, true_and, exists_eq_left, i16, nI_add]
      have hpW : MP θ W p := hp.eq (by rw [g1.1 _ (by omega)]) (g1.1 _ (by omega))
      refine br_f (nI_ge hi (by omega)) ⟨by omega, m_read hθ hU hpW (itS_ok (cv5_ok hs) _) (k := cvw p s) (by omega) ⟨vp_in_nI (by omega) (by decide), fun V45 h45 y hy z hz' => ?_⟩⟩
      rw [nI_clamp (by omega), mS_up (by omega)] at h45
      rw [h45, hy, hz', nI_1, nI_1]
      refine hgo2 _ _ ⟨rfl, _, rfl, g1.up (by omega) (by omega), fun j hj => ?_⟩
      by_cases e : j = 2 + cvm p s k + i
      · subst e; rw [up2_aa, show 2 + cvm p s k + i = (cvm p s k + i) + 2 by omega]; rfl
      · rw [up2_ab (by omega)]; exact g4 j (by omega)
    · obtain ⟨rfl, W, rfl, g1, g4⟩ := hJ
      show bl_M_points_75 _ _ _ _ _ _ _ _ _ _ _ _ _
      unfold bl_M_points_75
      refine br_t (nI_le (Nat.le_refl _) (by omega)) (fun y hy => ?_)
      rw [hy, nI_1]
      rw [Nat.add_assoc] at g4 ⊢
      exact hgo _ _ ⟨rfl, W, rfl, g1, g4⟩
  · obtain ⟨rfl, W, rfl, g1, g4⟩ := hJ
    show bl_M_points_37 _ _ _ _ _ _ _ _ _ _
    unfold bl_M_points_37
    simp only [UM hU, IM hθ, true_and, exists_eq_left, i1, i2, i5, i15, nI_add]
    rw [mS_ne (show tb θ + 157 ≠ tb θ + 126 by omega), nI_clamp (show la + 1 < 2 ^ 31 by omega), g1.2 (la + 1) (by omega), hP]
    refine ⟨by omega, vp_in_nI (by omega) (by decide), br_t (nI_le (Nat.le_refl _) (by omega)) ⟨vp_in_nI (by omega) (by decide), fun V20 h20 => ?_⟩⟩
    rw [nI_clamp (by omega), mS_up (by omega)] at h20
    subst h20
    have g1' : FB V (up2 W (tb θ + 157) (la + 15) (nI (2 + cvm p s (cvP p s)))) (tb θ + 157) (la + 15) 15 := g1.up (by omega) (by omega)
    have g5 : up2 W (tb θ + 157) (la + 15) (nI (2 + cvm p s (cvP p s))) (tb θ + 157) (la + 15) = nI (cvN p s) := up2_aa
    have g4' : ∀ i, i < cvN p s → up2 W (tb θ + 157) (la + 15) (nI (2 + cvm p s (cvP p s))) (tb θ + 157) (la + 16 + i) = nI (cvp p s i) := fun i hi => by rw [up2_ab (by omega)]; exact g4 i hi
    generalize up2 W (tb θ + 157) (la + 15) (nI (2 + cvm p s (cvP p s))) = X at g1' g5 g4' ⊢
    obtain ⟨k1, k0⟩ := h X g1' g5 g4'
    refine loop1 (cvN p s) (fun i V1 => V1 = mS θ X (cv6 p s) ∧ DST (cvp p s) i) ⟨rfl, fun a b _ hb => (by omega)⟩ (fun f2 i V1 hi hJ hgo2 => ?_) (fun f2 V1 hJ => ?_)
    · obtain ⟨rfl, hD⟩ := hJ
      show bl_M_points_126 _ _ _ _ _ _ _ _ _
      unfold bl_M_points_126
      refine br_f (nI_ge (b := cvN p s) hi (by omega)) ?_
      refine loop1 i (fun j V1 => V1 = mS θ X (cv6 p s) ∧ ∀ a, a < j → cvp p s a ≠ cvp p s i) ⟨rfl, fun a ha => (by omega)⟩ (fun f3 j V1 hj hJ hgo3 => ?_) (fun f3 V1 hJ => ?_)
      · obtain ⟨rfl, hE⟩ := hJ
        show bl_M_points_135 _ _ _ _ _ _ _ _ _ _ _
        unfold bl_M_points_135
        simp only [UM hU, IM hθ, true_and, exists_eq_left, i16, nI_add]
        rw [mS_ne (show tb θ + 157 ≠ tb θ + 126 by omega), nI_clamp (show la + 16 + i < 2 ^ 31 by omega), nI_clamp (show la + 16 + j < 2 ^ 31 by omega), g4' i hi, g4' j (by omega), nI_eq (cvp_lt i) (cvp_lt j)]
        refine br_f (nI_ge hj (by omega)) ⟨by omega, vp_in_nI (by omega) (by decide), vp_in_nI (by omega) (by decide), fun q y hy => ?_, fun q => k0 (fun hd => hd j i hj hi q.symm)⟩
        rw [hy, nI_1]
        refine hgo3 _ ⟨rfl, fun a ha => ?_⟩
        by_cases e : a = j
        · subst e; exact fun z => q z.symm
        · exact hE a (by omega)
      · obtain ⟨rfl, hE⟩ := hJ
        show bl_M_points_135 _ _ _ _ _ _ _ _ _ _ _
        unfold bl_M_points_135
        refine br_t (nI_le (Nat.le_refl _) (by omega)) (fun y hy => ?_)
        rw [hy, nI_1]
        refine hgo2 _ ⟨rfl, fun a b hab hb => ?_⟩
        by_cases e : b = i
        · subst e; exact hE a hab
        · exact hD a b hab (by omega)
    · obtain ⟨rfl, hD⟩ := hJ
      show bl_M_points_126 _ _ _ _ _ _ _ _ _
      unfold bl_M_points_126
      exact br_t (nI_le (b := cvN p s) (Nat.le_refl _) (by omega)) (k1 hD)
theorem FB.wide {V W : VT} {a lo n lo2 n2 : Nat} (h : FB V W a lo n) (h1 : lo2 ≤ lo) (h2 : lo + n ≤ lo2 + n2) : FB V W a lo2 n2 := ⟨h.1, fun j hj => h.2 j (by omega)⟩
theorem m_cload {K : Int32 → VT → UT → Prop} (hθ : OKt θ) (hU : US θ sw U) (hla : la ≤ 48) (hp : MP θ V p) (hs : s.1 ≤ 8 * p.L) (hB : B ≤ 4) (h44 : V (tb θ + 126) 44 = nI B) (h : ∀ W t, FB V W (tb θ + 157) la 30 → (CVO p B s → t = cv6 p s → CPM θ W la (cvD p s) → K 1 (mS θ W t) U) ∧ (¬ CVO p B s → K 0 (mS θ W t) U)) : wp_M_curvePart θ (tb θ + 126) (nI la) (mS θ V s) U K := by
  have i0 : nI la + (0 : Int32) = nI la := nI_add la 0
  have i1 : nI la + (1 : Int32) = nI (la + 1) := nI_add la 1
  have i2 : nI la + (2 : Int32) = nI (la + 2) := nI_add la 2
  unfold wp_M_curvePart
  simp only [UM hU, IM hθ, true_and, exists_eq_left, i0, i1]
  refine ⟨by omega, m_read hθ hU hp hs (k := 2) (by decide) ⟨vp_in_nI (by omega) (by decide), fun V9 h9 => ?_⟩⟩
  rw [nI_1, nI_clamp (by omega), mS_up (by omega)] at h9
  subst h9
  refine m_read hθ hU (hp.eq (by rw [up2_ne (by omega)]) (up2_ne (by omega))) (rdS_ok 2 hs) (k := 2) (by decide) ?_
  simp only [UM hU, IM hθ, true_and, exists_eq_left]
  refine ⟨by omega, vp_in_nI (by omega) (by decide), fun V17 h17 => ?_⟩
  rw [nI_clamp (by omega), mS_up (by omega)] at h17
  subst h17
  have f1 : FB V (up2 (up2 V (tb θ + 157) la (nI (rdV p 2 s + 1))) (tb θ + 157) (la + 1) (nI (rdV p 2 (rdS p 2 s)))) (tb θ + 157) la 30 := (FB.refl.up (by omega) (by omega)).up (by omega) (by omega)
  have f2 : up2 (up2 V (tb θ + 157) la (nI (rdV p 2 s + 1))) (tb θ + 157) (la + 1) (nI (rdV p 2 (rdS p 2 s))) (tb θ + 157) la = nI (cvg p s + 1) := by rw [up2_ab (by omega), up2_aa]; rfl
  have f3 : up2 (up2 V (tb θ + 157) la (nI (rdV p 2 s + 1))) (tb θ + 157) (la + 1) (nI (rdV p 2 (rdS p 2 s))) (tb θ + 157) (la + 1) = nI (cvP p s) := up2_aa
  generalize up2 (up2 V (tb θ + 157) la (nI (rdV p 2 s + 1))) (tb θ + 157) (la + 1) (nI (rdV p 2 (rdS p 2 s))) = W0 at f1 f2 f3 ⊢
  have hPl := cvP_lt (p := p) (s := s)
  refine loop2 (a := (-1 : Int32)) (cvP p s) (fun k b V1 => b = nO (sbO (cvn p s k)) ∧ ∃ W, V1 = mS θ W (itS p 1 (cv2 p s) k) ∧ FB W0 W (tb θ + 157) (la + 2) 3 ∧ ∀ j, j < k → W (tb θ + 157) (la + 2 + j) = nI (cvl p s j)) ⟨rfl, W0, rfl, FB.refl, fun j hj => (by omega)⟩ (fun f k b V1 hk hJ hgo => ?_) (fun f b V1 hJ => ?_)
  · obtain ⟨rfl, W, rfl, g1, g2⟩ := hJ
    show bl_M_curvePart_35 _ _ _ _ _ _ _ _ _ _
    unfold bl_M_curvePart_35
    simp only [UM hU, IM hθ, true_and, exists_eq_left, i2, nI_add]
    have hpW : MP θ W p := hp.eq (by rw [g1.1 _ (by omega), f1.1 _ (by omega)]) (by rw [g1.1 _ (by omega), f1.1 _ (by omega)])
    refine br_f (nI_ge (b := cvP p s) hk (by omega)) (m_read hθ hU hpW (itS_ok (cv2_ok hs) k) (k := 1) (by decide) ?_)
    simp only [UM hU, IM hθ, true_and, exists_eq_left]
    refine ⟨by omega, vp_in_nI (by omega) (by decide), fun V27 h27 => ?_⟩
    rw [nI_clamp (by omega), mS_up (by omega)] at h27
    subst h27
    have hcl := cvl_lt (p := p) (s := s) k
    have hcn := cvn_le (p := p) (s := s) k
    have hle := mst_le (a := cvl p s k) (n := cvn p s k) (by omega) (by omega)
    have go : ∀ x : Int32, x = nO (sbO (cvn p s (k + 1))) → wl_M_curvePart_35 θ (tb θ + 126) (nI la) (nI (cvP p s)) K f x (nI (k + 1)) (mS θ (up2 W (tb θ + 157) (la + 2 + k) (nI (cvl p s k))) (itS p 1 (cv2 p s) (k + 1))) U := by
      intro x hx
      refine hgo _ _ ⟨hx, _, rfl, g1.up (by omega) (by omega), fun j hj => ?_⟩
      by_cases e : j = k
      · subst e; rw [up2_aa]
      · rw [up2_ab (by omega)]; exact g2 j (by omega)
    have hmx : cvn p s (k + 1) = max (cvn p s k) (cvl p s k + 1) := rfl
    refine ⟨fun q y hy => ?_, fun q y hy => ?_⟩
    · have := hle.1 q
      rw [hy, nI_1]
      exact go _ (by rw [hmx, Nat.max_eq_left this])
    · have : ¬ cvl p s k + 1 ≤ cvn p s k := fun z => q (hle.2 z)
      rw [hy, nI_1]
      refine go _ ?_
      rw [hmx, Nat.max_eq_right (by omega)]
      unfold sbO; rw [if_neg (by omega)]; rfl
  · obtain ⟨rfl, W, rfl, g1, g2⟩ := hJ
    show bl_M_curvePart_35 _ _ _ _ _ _ _ _ _ _
    unfold bl_M_curvePart_35
    refine br_t (nI_le (b := cvP p s) (Nat.le_refl _) (by omega)) ?_
    have hC2 : cvC p s ≤ 2 := cvn_le _
    -- the kinds of part
    have key : ∀ n q x X, q + n = cvC p s → GF x (∀ j, j < q → kOK p B (cvk p s j)) → FB W X (tb θ + 157) (la + 5) 10 → (∀ j, j < q → X (tb θ + 157) (la + 5 + j) = nI (kz p (cvk p s j)) ∧ X (tb θ + 157) (la + 7 + j) = bZ (ksp p (cvk p s j)) ∧ (ksp p (cvk p s j) = true → X (tb θ + 157) (la + 9 + j) = nI (kms p (cvk p s j))) ∧ X (tb θ + 157) (la + 11 + 2 * j) = nO (ksb p (cvk p s j) 0) ∧ (ksp p (cvk p s j) = true → X (tb θ + 157) (la + 11 + 2 * j + 1) = nO (ksb p (cvk p s j) 1))) → wl_M_curvePart_86 θ (tb θ + 126) (nI la) (nO (sbO (cvC p s))) K (n + 1) x (nI q) (mS θ X (cvk p s q)) U := by
      intro n
      induction n with
      | zero =>
        intro q x X hq hx hF hX
        obtain rfl : q = cvC p s := by omega
        show bl_M_curvePart_86 _ _ _ _ _ _ _ _ _ _
        unfold bl_M_curvePart_86 wb_M_curvePart_308
        simp only [IM hθ, true_and]
        have FX : FB V X (tb θ + 157) la 30 := (f1.trans (g1.wide (by omega) (by omega))).trans (hF.wide (by omega) (by omega))
        refine br_t ((mst_lt (by omega) (by omega)).2 (Nat.le_refl _)) ?_
        rcases hx with ⟨a, b⟩ | ⟨a, b⟩
        · refine ⟨fun z => absurd (a.symm.trans z) (by decide), fun _ => ?_⟩
          have hpX : MP θ X p := hp.eq (by rw [FX.1 _ (by omega)]) (FX.1 _ (by omega))
          refine m_points hθ hU hla hpX hs ?_ (fun k hk => ?_) (fun q hq => (hX q hq).1) (fun Y y1 y2 y3 => ?_)
          · rw [hF.2 _ (by omega), g1.2 _ (by omega)]; exact f3
          · rw [hF.2 _ (by omega)]; exact g2 k hk
          · have FY : FB V Y (tb θ + 157) la 30 := FX.trans (y1.wide (by omega) (by omega))
            refine ⟨fun hd => ⟨fun z => absurd z (by decide), fun _ => (h Y _ FY).1 ⟨b, hd⟩ rfl ⟨?_, ?_, fun k hk => ?_, fun q hq => ?_, y2, y3⟩⟩, fun hd => ⟨fun _ => (h Y _ FY).2 (fun z => hd z.2), fun z => absurd rfl z⟩⟩
            · rw [y1.2 _ (by omega), hF.2 _ (by omega), g1.2 _ (by omega)]; exact f2
            · rw [y1.2 _ (by omega), hF.2 _ (by omega), g1.2 _ (by omega)]; exact f3
            · have hk' : k < cvP p s := hk
              rw [y1.2 _ (by omega), hF.2 _ (by omega)]; exact g2 k hk
            · have hq' : q < cvC p s := hq
              rw [y1.2 _ (by omega), y1.2 _ (by omega), y1.2 _ (by omega), y1.2 _ (by omega), y1.2 _ (by omega)]; exact hX q hq
        · exact ⟨fun _ => (h X _ FX).2 (fun z => b z.1), fun z => absurd a z⟩
      | succ n ih =>
        intro q x X hq hx hF hX
        have FX : FB V X (tb θ + 157) la 30 := (f1.trans (g1.wide (by omega) (by omega))).trans (hF.wide (by omega) (by omega))
        have hpX : MP θ X p := hp.eq (by rw [FX.1 _ (by omega)]) (FX.1 _ (by omega))
        show bl_M_curvePart_86 _ _ _ _ _ _ _ _ _ _
        refine m_class hθ hU hla hpX hB (by rw [FX.1 _ (by omega)]; exact h44) (cvk_ok hs q) (by omega) (fun z => ?_) hx (fun x' hx' => ?_)
        · have := (mst_lt (by omega) (by omega)).1 z; omega
        · refine ih (q + 1) x' _ (by omega) (hx'.congr ⟨fun w j hj => ?_, fun w => ⟨fun j hj => w j (by omega), w q (by omega)⟩⟩) ?_ (fun j hj => ?_)
          · by_cases e : j = q
            · subst e; exact w.2
            · exact w.1 j (by omega)
          · refine ⟨fun x hx => by rw [m5W_ne hx]; exact hF.1 x hx, fun j hj => ?_⟩
            rw [m5W_o (by omega) (by omega) (by omega) (by omega) (by omega)]; exact hF.2 j hj
          · by_cases e : j = q
            · subst e; exact m5W_q (by omega)
            · rw [m5W_o (by omega) (by omega) (by omega) (by omega) (by omega), m5W_o (by omega) (by omega) (by omega) (by omega) (by omega), m5W_o (by omega) (by omega) (by omega) (by omega) (by omega), m5W_o (by omega) (by omega) (by omega) (by omega) (by omega), m5W_o (by omega) (by omega) (by omega) (by omega) (by omega)]; exact hX j (by omega)
    exact ⟨_, key (cvC p s) 0 1 W (by omega) (Or.inl ⟨rfl, fun j hj => (by omega)⟩) FB.refl (fun j hj => (by omega))⟩
end MCLOAD
