-- the plan of the curves is read, one side
section CLOAD
variable {θ : TH} {V : VT} {U : UT} {sw : Bool} {p : PK} {s u : RS} {c B : Nat}
theorem s_taken {K : Int32 → VT → UT → Prop} (hθ : OKt θ) (hU : US θ sw U) (hc : c = 68 ∨ c = 84) {n x : Nat} {f : Nat → Nat} (hn : n ≤ 14) (hx : x < 2 ^ 31) (hN : V (tb θ + c) 7 = nI n) (hf : ∀ i, i < n → V (tb θ + (c + 6)) i = nI (f i) ∧ f i < 2 ^ 31) (h0 : (∀ i, i < n → f i ≠ x) → K 0 V U) (h1 : ∀ i, i < n → f i = x → K 1 V U) : wp_C_isTaken θ (tb θ + c) (nI x) V U K := by
  refine loop1 n (fun i V1 => V1 = V ∧ ∀ j, j < i → f j ≠ x) ⟨rfl, fun j hj => (by omega)⟩ (fun g i V1 hi hJ hgo => ?_) (fun g V1 hJ => ?_)
  · obtain ⟨rfl, hD⟩ := hJ
    show bl_C_isTaken_2 _ _ _ _ _ _ _ _
    unfold bl_C_isTaken_2
    simp only [cpU hθ hU hc, true_and, exists_eq_left]
    rw [hN, nI_clamp (show i < 2 ^ 31 by omega), (hf i hi).1, nI_eq (hf i hi).2 hx]
    refine br_f (nI_ge hi (by omega)) ⟨by omega, vp_in_nI (by omega) (by decide), fun q y hy => ?_, fun q => h1 i hi q⟩
    rw [hy, nI_1]
    refine hgo _ ⟨rfl, fun j hj => ?_⟩
    by_cases e : j = i
    · subst e; exact q
    · exact hD j (by omega)
  · obtain ⟨rfl, hD⟩ := hJ
    show bl_C_isTaken_2 _ _ _ _ _ _ _ _
    unfold bl_C_isTaken_2
    simp only [cpU hθ hU hc, true_and]
    rw [hN]
    exact br_t (nI_le (Nat.le_refl _) (by omega)) (h0 hD)
theorem cvp_lt (i : Nat) : cvp p s i < 2 ^ 31 := by
  have hw5 : 2 ^ cvw p s ≤ 2 ^ 5 := p2le cvw_b.2
  have hp0 := p2pos (cvw p s)
  cases i with
  | zero => show 0 < _; decide
  | succ i =>
    cases i with
    | zero => show 2 ^ cvw p s < _; omega
    | succ i =>
      have := rdV_lt p (cvw p s) (itS p (cvw p s) (cv5 p s) i)
      show rdV _ _ _ < _
      omega
theorem s_points {K : Int32 → VT → UT → Prop} (hθ : OKt θ) (hU : US θ sw U) (hc : c = 68 ∨ c = 84) (hp : HP θ V p) (hs : s.1 ≤ 8 * p.L) (hP : V (tb θ + c) 1 = nI (cvP p s)) (hl : ∀ k, k < cvP p s → V (tb θ + (c + 1)) k = nI (cvl p s k)) (hz : ∀ q, q < cvC p s → V (tb θ + (c + 2)) q = nI (kz p (cvk p s q))) (h : ∀ W t, (∀ q, q ≠ tb θ + c → q ≠ tb θ + (c + 6) → W q = V q) → (∀ j, j ≠ 7 → W (tb θ + c) j = V (tb θ + c) j) → (DST (cvp p s) (cvN p s) → t = cv6 p s → W (tb θ + c) 7 = nI (cvN p s) → (∀ i, i < cvN p s → W (tb θ + (c + 6)) i = nI (cvp p s i)) → K 1 (cS θ W t) U) ∧ (¬ DST (cvp p s) (cvN p s) → K 0 (cS θ W t) U)) : wp_C_loadPoints θ (tb θ + c) (tb θ + 25) (cS θ V (cv4 p s)) U K := by
  unfold wp_C_loadPoints
  simp only [cpU hθ hU hc, true_and]
  refine s_read hθ hU hp (cvk_ok hs _) (k := 2) (by decide) ?_
  intro y hy
  rw [show (2 : Int32) = nI 2 from rfl, nI_add] at hy
  have hy2 : y = nI (cvw p s) := hy
  clear hy
  subst hy2
  simp only [cpU hθ hU hc, true_and, exists_eq_left]
  have hw := cvw_b (p := p) (s := s)
  have hw5 : 2 ^ cvw p s ≤ 2 ^ 5 := p2le cvw_b.2
  have hPl := cvP_lt (p := p) (s := s)
  refine ⟨by omega, vp_in_nI (n := 0) (by decide) (by decide), fun V11 h11 => ⟨vp_in_nI (n := 1) (by decide) (by decide), fun V13 h13 V14 h14 => ?_⟩⟩
  rw [show ((0 : Int32).toNatClampNeg) = 0 from rfl, cS_up (by omega)] at h11
  rw [h11, show ((1 : Int32).toNatClampNeg) = 1 from rfl, cS_up (by omega), show (1 : Int32) = nI 1 from rfl, pk_shlN _ (cvw p s) (sh31 (by omega)) (by omega), Nat.one_mul] at h13
  rw [h13, cS_up (by omega)] at h14
  subst h14
  have f1 : ∀ q, q ≠ tb θ + c → q ≠ tb θ + (c + 6) → up2 (up2 (up2 V (tb θ + (c + 6)) 0 0) (tb θ + (c + 6)) 1 (nI (2 ^ cvw p s))) (tb θ + c) 7 2 q = V q := fun q a b => by rw [up2_ne a, up2_ne b, up2_ne b]
  have f2 : ∀ j, j ≠ 7 → up2 (up2 (up2 V (tb θ + (c + 6)) 0 0) (tb θ + (c + 6)) 1 (nI (2 ^ cvw p s))) (tb θ + c) 7 2 (tb θ + c) j = V (tb θ + c) j := fun j hj => by rw [up2_ab hj, up2_ne (by omega), up2_ne (by omega)]
  have f3 : up2 (up2 (up2 V (tb θ + (c + 6)) 0 0) (tb θ + (c + 6)) 1 (nI (2 ^ cvw p s))) (tb θ + c) 7 2 (tb θ + c) 7 = nI 2 := up2_aa
  have f4 : ∀ i, i < 2 → up2 (up2 (up2 V (tb θ + (c + 6)) 0 0) (tb θ + (c + 6)) 1 (nI (2 ^ cvw p s))) (tb θ + c) 7 2 (tb θ + (c + 6)) i = nI (cvp p s i) := by
    intro i hi
    rw [up2_ne (by omega)]
    have : i = 0 ∨ i = 1 := by omega
    rcases this with rfl | rfl
    · rw [up2_ab (by decide), up2_aa]; rfl
    · rw [up2_aa]; rfl
  generalize up2 (up2 (up2 V (tb θ + (c + 6)) 0 0) (tb θ + (c + 6)) 1 (nI (2 ^ cvw p s))) (tb θ + c) 7 2 = W0 at f1 f2 f3 f4 ⊢
  have d2 : DST (cvp p s) 2 := by
    intro i j hij hj
    obtain rfl : i = 0 := by omega
    obtain rfl : j = 1 := by omega
    show (0 : Nat) ≠ 2 ^ cvw p s
    have := p2pos (cvw p s); omega
  refine loop1 (cvP p s) (fun k V1 => ∃ W, V1 = cS θ W (itS p (cvw p s) (cv5 p s) (cvm p s k)) ∧ (∀ q, q ≠ tb θ + c → q ≠ tb θ + (c + 6) → W q = V q) ∧ (∀ j, j ≠ 7 → W (tb θ + c) j = V (tb θ + c) j) ∧ W (tb θ + c) 7 = nI (2 + cvm p s k) ∧ (∀ i, i < 2 + cvm p s k → W (tb θ + (c + 6)) i = nI (cvp p s i)) ∧ DST (cvp p s) (2 + cvm p s k)) ⟨W0, rfl, f1, f2, f3, f4, d2⟩ (fun f k V1 hk hJ hgo => ?_) (fun f V1 hJ => ?_)
  · obtain ⟨W, rfl, g1, g2, g3, g4, g5⟩ := hJ
    show bl_C_loadPoints_31 _ _ _ _ _ _ _ _ _
    unfold bl_C_loadPoints_31
    simp only [cpU hθ hU hc, true_and]
    rw [cS_ne (show tb θ + c ≠ tb θ + 25 by omega), g2 1 (by decide), hP]
    refine br_f (nI_ge hk (by omega)) ?_
    have hkz := kz_b (p := p) (u := cvk p s (cvl p s k))
    have hmk : cvm p s (k + 1) = cvm p s k + kz p (cvk p s (cvl p s k)) := rfl
    have hml := cvm_le (p := p) (s := s) k
    have hmono := cvm_mono (p := p) (s := s) (show k + 1 ≤ cvP p s from hk)
    have hcl := cvl_lt (p := p) (s := s) k
    refine loop1 (kz p (cvk p s (cvl p s k))) (fun i V1 => ∃ W, V1 = cS θ W (itS p (cvw p s) (cv5 p s) (cvm p s k + i)) ∧ (∀ q, q ≠ tb θ + c → q ≠ tb θ + (c + 6) → W q = V q) ∧ (∀ j, j ≠ 7 → W (tb θ + c) j = V (tb θ + c) j) ∧ W (tb θ + c) 7 = nI (2 + cvm p s k + i) ∧ (∀ j, j < 2 + cvm p s k + i → W (tb θ + (c + 6)) j = nI (cvp p s j)) ∧ DST (cvp p s) (2 + cvm p s k + i)) ⟨W, rfl, g1, g2, g3, g4, g5⟩ (fun f2 i V1 hi hJ hgo2 => ?_) (fun f2 V1 hJ => ?_)
    · obtain ⟨W, rfl, g1, g2, g3, g4, g5⟩ := hJ
      show bl_C_loadPoints_42 _ _ _ _ _ _ _ _ _ _ _
      unfold bl_C_loadPoints_42
      simp only [cpU hθ hU hc, true_and, exists_eq_left]
      have hpW : HP θ W p := hp.eq (by rw [g1 _ (by omega) (by omega)]) (g1 _ (by omega) (by omega))
      rw [nI_clamp (show k < 2 ^ 31 by omega), cS_ne (show tb θ + (c + 1) ≠ tb θ + 25 by omega), g1 (tb θ + (c + 1)) (by omega) (by omega), hl k hk, nI_clamp (show cvl p s k < 2 ^ 31 by omega), cS_ne (show tb θ + (c + 2) ≠ tb θ + 25 by omega), g1 (tb θ + (c + 2)) (by omega) (by omega), hz _ (cvn_gt hk)]
      refine ⟨by omega, by omega, vp_in_nI (by omega) (by decide), vp_in_nI (by omega) (by decide), br_f (nI_ge hi (by omega)) ?_⟩
      refine s_read hθ hU hpW (itS_ok (cv5_ok hs) _) (k := cvw p s) (by omega) ?_
      have hxl := rdV_lt p (cvw p s) (itS p (cvw p s) (cv5 p s) (cvm p s k + i))
      have ex : rdV p (cvw p s) (itS p (cvw p s) (cv5 p s) (cvm p s k + i)) = cvp p s (2 + cvm p s k + i) := by
        rw [show 2 + cvm p s k + i = (cvm p s k + i) + 2 by omega]; rfl
      refine s_taken (f := cvp p s) (n := 2 + cvm p s k + i) hθ hU hc (by omega) (by omega) (by rw [cS_ne (by omega)]; exact g3) (fun j hj => ⟨by rw [cS_ne (by omega)]; exact g4 j hj, cvp_lt j⟩) (fun hfree => ?_) (fun j hj hjx => ?_)
      · simp only [cpU hθ hU hc, true_and, exists_eq_left]
        refine ⟨fun _ => ⟨by omega, ?_⟩, fun q => absurd trivial q⟩
        rw [cS_ne (show tb θ + c ≠ tb θ + 25 by omega), g3, nI_clamp (show 2 + cvm p s k + i < 2 ^ 31 by omega)]
        refine ⟨vp_in_nI (by omega) (by decide), fun V40 h40 V41 h41 y hy => ?_⟩
        rw [cS_up (by omega)] at h40
        rw [h40, cS_ne (by omega), up2_ne (by omega), g3, nI_1, cS_up (by omega)] at h41
        rw [h41, hy, nI_1, ex]
        refine hgo2 _ ⟨_, rfl, fun q a b => ?_, fun j hj => ?_, ?_, fun j hj => ?_, fun a b hab hb => ?_⟩
        · rw [up2_ne a, up2_ne b]; exact g1 q a b
        · rw [up2_ab hj, up2_ne (by omega)]; exact g2 j hj
        · rw [up2_aa]; rfl
        · rw [up2_ne (by omega)]
          by_cases e : j = 2 + cvm p s k + i
          · subst e; rw [up2_aa]
          · rw [up2_ab e]; exact g4 j (by omega)
        · by_cases e : b = 2 + cvm p s k + i
          · subst e; rw [← ex]; exact hfree a (by omega)
          · exact g5 a b hab (by omega)
      · refine ⟨fun q => absurd q (by decide), fun _ => (h W _ g1 g2).2 (fun hd => ?_)⟩
        exact hd j (2 + cvm p s k + i) (by omega) (by unfold cvN; omega) (hjx.trans ex)
    · obtain ⟨W, rfl, g1, g2, g3, g4, g5⟩ := hJ
      show bl_C_loadPoints_42 _ _ _ _ _ _ _ _ _ _ _
      unfold bl_C_loadPoints_42
      simp only [cpU hθ hU hc, true_and, exists_eq_left]
      rw [nI_clamp (show k < 2 ^ 31 by omega), cS_ne (show tb θ + (c + 1) ≠ tb θ + 25 by omega), g1 (tb θ + (c + 1)) (by omega) (by omega), hl k hk, nI_clamp (show cvl p s k < 2 ^ 31 by omega), cS_ne (show tb θ + (c + 2) ≠ tb θ + 25 by omega), g1 (tb θ + (c + 2)) (by omega) (by omega), hz _ (cvn_gt hk)]
      refine ⟨by omega, by omega, vp_in_nI (by omega) (by decide), vp_in_nI (by omega) (by decide), br_t (nI_le (Nat.le_refl _) (by omega)) (fun y hy => ?_)⟩
      rw [hy, nI_1]
      rw [Nat.add_assoc] at g3 g4 g5
      exact hgo _ ⟨W, rfl, g1, g2, g3, g4, g5⟩
  · obtain ⟨W, rfl, g1, g2, g3, g4, g5⟩ := hJ
    show bl_C_loadPoints_31 _ _ _ _ _ _ _ _ _
    unfold bl_C_loadPoints_31
    simp only [cpU hθ hU hc, true_and]
    rw [cS_ne (show tb θ + c ≠ tb θ + 25 by omega), g2 1 (by decide), hP]
    exact br_t (nI_le (Nat.le_refl _) (by omega)) ((h W _ g1 g2).1 g5 rfl g3 g4)
theorem clW_ne {q x : Nat} (h2 : x ≠ tb θ + (c + 2)) (h3 : x ≠ tb θ + (c + 3)) (h4 : x ≠ tb θ + (c + 4)) (h5 : x ≠ tb θ + (c + 5)) : clW θ V c p u q x = V x := by
  unfold clW; rw [up2_ne h5, up2_ne h5, up2_ne h4, up2_ne h3, up2_ne h2]
theorem clW_q {q : Nat} : clW θ V c p u q (tb θ + (c + 2)) q = nI (kz p u) ∧ clW θ V c p u q (tb θ + (c + 3)) q = bZ (ksp p u) ∧ (ksp p u = true → clW θ V c p u q (tb θ + (c + 4)) q = nI (kms p u)) ∧ clW θ V c p u q (tb θ + (c + 5)) (2 * q) = nO (ksb p u 0) ∧ (ksp p u = true → clW θ V c p u q (tb θ + (c + 5)) (2 * q + 1) = nO (ksb p u 1)) := by
  unfold clW
  refine ⟨?_, ?_, fun hs => ?_, ?_, fun hs => ?_⟩
  · rw [up2_ne (by omega), up2_ne (by omega), up2_ne (by omega), up2_ne (by omega), up2_aa]
  · rw [up2_ne (by omega), up2_ne (by omega), up2_ne (by omega), up2_aa]
  · rw [up2_ne (by omega), up2_ne (by omega), up2_aa, if_pos hs]
  · rw [up2_ab (by omega), up2_aa]
  · rw [up2_aa, if_pos hs]
theorem clW_o {q j : Nat} (hj : j ≠ q) : clW θ V c p u q (tb θ + (c + 2)) j = V (tb θ + (c + 2)) j ∧ clW θ V c p u q (tb θ + (c + 3)) j = V (tb θ + (c + 3)) j ∧ clW θ V c p u q (tb θ + (c + 4)) j = V (tb θ + (c + 4)) j ∧ clW θ V c p u q (tb θ + (c + 5)) (2 * j) = V (tb θ + (c + 5)) (2 * j) ∧ clW θ V c p u q (tb θ + (c + 5)) (2 * j + 1) = V (tb θ + (c + 5)) (2 * j + 1) := by
  unfold clW
  refine ⟨?_, ?_, ?_, ?_, ?_⟩
  · rw [up2_ne (by omega), up2_ne (by omega), up2_ne (by omega), up2_ne (by omega), up2_ab hj]
  · rw [up2_ne (by omega), up2_ne (by omega), up2_ne (by omega), up2_ab hj, up2_ne (by omega)]
  · rw [up2_ne (by omega), up2_ne (by omega), up2_ab hj, up2_ne (by omega), up2_ne (by omega)]
  · rw [up2_ab (by omega), up2_ab (by omega), up2_ne (by omega), up2_ne (by omega), up2_ne (by omega)]
  · rw [up2_ab (by omega), up2_ab (by omega), up2_ne (by omega), up2_ne (by omega), up2_ne (by omega)]
theorem s_cload {K : Int32 → VT → UT → Prop} (hθ : OKt θ) (hU : US θ sw U) (hc : c = 68 ∨ c = 84) (hp : HP θ V p) (hs : s.1 ≤ 8 * p.L) (hB : B ≤ 4) (h : ∀ W t, (∀ q, (q < tb θ + c ∨ tb θ + (c + 9) < q) → W q = V q) → (CVO p B s → t = cv6 p s → CPC θ W c (cvD p s) → K 1 (cS θ W t) U) ∧ (¬ CVO p B s → K 0 (cS θ W t) U)) : wp_C_load θ (tb θ + c) (tb θ + 25) (nI B) (cS θ V s) U K := by
  unfold wp_C_load
  simp only [cpU hθ hU hc, true_and]
  refine s_read hθ hU hp hs (k := 2) (by decide) (fun V6 h6 => ?_)
  rw [cS_up (by omega)] at h6
  subst h6
  refine s_read hθ hU (hp.up (by omega) (by omega)) (rdS_ok 2 hs) (k := 2) (by decide) (fun V10 h10 => ?_)
  rw [cS_up (by omega)] at h10
  subst h10
  have f1 : ∀ q, q ≠ tb θ + c → up2 (up2 V (tb θ + c) 0 (nI (rdV p 2 s))) (tb θ + c) 1 (nI (rdV p 2 (rdS p 2 s))) q = V q := fun q a => by rw [up2_ne a, up2_ne a]
  have f2 : up2 (up2 V (tb θ + c) 0 (nI (rdV p 2 s))) (tb θ + c) 1 (nI (rdV p 2 (rdS p 2 s))) (tb θ + c) 0 = nI (cvg p s) := by rw [up2_ab (by decide), up2_aa]; rfl
  have f3 : up2 (up2 V (tb θ + c) 0 (nI (rdV p 2 s))) (tb θ + c) 1 (nI (rdV p 2 (rdS p 2 s))) (tb θ + c) 1 = nI (cvP p s) := up2_aa
  generalize up2 (up2 V (tb θ + c) 0 (nI (rdV p 2 s))) (tb θ + c) 1 (nI (rdV p 2 (rdS p 2 s))) = W0 at f1 f2 f3 ⊢
  have hPl := cvP_lt (p := p) (s := s)
  refine loop2 (cvP p s) (fun k b V1 => b = nI (cvn p s k) ∧ ∃ W, V1 = cS θ W (itS p 1 (cv2 p s) k) ∧ (∀ q, q ≠ tb θ + (c + 1) → W q = W0 q) ∧ ∀ j, j < k → W (tb θ + (c + 1)) j = nI (cvl p s j)) ⟨rfl, W0, rfl, fun _ _ => rfl, fun j hj => (by omega)⟩ (fun f k b V1 hk hJ hgo => ?_) (fun f b V1 hJ => ?_)
  · obtain ⟨rfl, W, rfl, g1, g2⟩ := hJ
    show bl_C_load_23 _ _ _ _ _ _ _ _ _ _
    unfold bl_C_load_23
    simp only [cpU hθ hU hc, true_and, exists_eq_left]
    rw [cS_ne (show tb θ + c ≠ tb θ + 25 by omega), g1 _ (show tb θ + c ≠ tb θ + (c + 1) by omega), f3]
    have hpW : HP θ W p := hp.eq (by rw [g1 _ (by omega), f1 _ (by omega)]) (by rw [g1 _ (by omega), f1 _ (by omega)])
    have hin : vp_in (nI k) 3 := vp_in_nI (by omega) (by decide)
    refine br_f (nI_ge hk (by omega)) ⟨by omega, s_read hθ hU hpW (itS_ok (cv2_ok hs) k) (k := 1) (by decide) ⟨hin, fun V21 h21 => ?_⟩⟩
    rw [nI_clamp (show k < 2 ^ 31 by omega), cS_up (by omega)] at h21
    subst h21
    simp only [cpU hθ hU hc, true_and, exists_eq_left]
    rw [nI_clamp (show k < 2 ^ 31 by omega), cS_ne (show tb θ + (c + 1) ≠ tb θ + 25 by omega), up2_aa, nI_1]
    refine ⟨by omega, hin, fun y hy z hz => ?_⟩
    have hcl := cvl_lt (p := p) (s := s) k
    have hcn := cvn_le (p := p) (s := s) k
    have ey : y = nI (cvn p s (k + 1)) := by
      rw [hy]
      show _ = nI (max (cvn p s k) (cvl p s k + 1))
      by_cases q : cvn p s k < cvl p s k + 1
      · rw [if_pos (nI_lt (b := rdV p 1 (itS p 1 (cv2 p s) k) + 1) q (by show cvl p s k + 1 < _; omega)), Nat.max_eq_right (by omega)]; rfl
      · rw [if_neg (nI_nlt (b := rdV p 1 (itS p 1 (cv2 p s) k) + 1) (by show cvl p s k + 1 ≤ _; omega) (by omega)), Nat.max_eq_left (by omega)]
    rw [ey, hz, nI_1]
    refine hgo _ _ ⟨rfl, _, rfl, fun q hq => (up2_ne hq).trans (g1 q hq), fun j hj => ?_⟩
    by_cases e : j = k
    · subst e; rw [up2_aa]; rfl
    · rw [up2_ab e]; exact g2 j (by omega)
  · obtain ⟨rfl, W, rfl, g1, g2⟩ := hJ
    show bl_C_load_23 _ _ _ _ _ _ _ _ _ _
    unfold bl_C_load_23
    simp only [cpU hθ hU hc, true_and]
    rw [cS_ne (show tb θ + c ≠ tb θ + 25 by omega), g1 _ (show tb θ + c ≠ tb θ + (c + 1) by omega), f3]
    refine br_t (nI_le (Nat.le_refl _) (by omega)) ?_
    have hC2 : cvC p s ≤ 2 := cvn_le _
    refine loop1 (cvC p s) (fun q V1 => ∃ X, V1 = cS θ X (cvk p s q) ∧ (∀ x, x ≠ tb θ + (c + 2) → x ≠ tb θ + (c + 3) → x ≠ tb θ + (c + 4) → x ≠ tb θ + (c + 5) → X x = W x) ∧ (∀ j, j < q → kOK p B (cvk p s j)) ∧ ∀ j, j < q → X (tb θ + (c + 2)) j = nI (kz p (cvk p s j)) ∧ X (tb θ + (c + 3)) j = bZ (ksp p (cvk p s j)) ∧ (ksp p (cvk p s j) = true → X (tb θ + (c + 4)) j = nI (kms p (cvk p s j))) ∧ X (tb θ + (c + 5)) (2 * j) = nO (ksb p (cvk p s j) 0) ∧ (ksp p (cvk p s j) = true → X (tb θ + (c + 5)) (2 * j + 1) = nO (ksb p (cvk p s j) 1))) ⟨W, rfl, fun _ _ _ _ _ => rfl, fun j hj => (by omega), fun j hj => (by omega)⟩ (fun g9 q V1 hq hJ hgo2 => ?_) (fun g9 V1 hJ => ?_)
    · obtain ⟨X, rfl, x1, x2, x3⟩ := hJ
      show bl_C_load_67 _ _ _ _ _ _ _ _ _ _
      unfold bl_C_load_67
      simp only [cpU hθ hU hc, true_and]
      have hpX : HP θ X p := hp.eq (by rw [x1 _ (by omega) (by omega) (by omega) (by omega), g1 _ (by omega), f1 _ (by omega)]) (by rw [x1 _ (by omega) (by omega) (by omega) (by omega), g1 _ (by omega), f1 _ (by omega)])
      refine br_f (nI_ge hq (by show cvC p s < _; omega)) (s_class hθ hU hc hpX (cvk_ok hs q) hB (by omega) (fun ok => ?_) (fun nok => ?_))
      · refine ⟨fun _ y hy => ?_, fun z => absurd z (by decide)⟩
        rw [hy, nI_1]
        refine hgo2 _ ⟨_, rfl, fun x a b d e => by rw [clW_ne a b d e]; exact x1 x a b d e, fun j hj => ?_, fun j hj => ?_⟩
        · by_cases e : j = q
          · subst e; exact ok
          · exact x2 j (by omega)
        · by_cases e : j = q
          · subst e; exact clW_q
          · obtain ⟨o1, o2, o3, o4, o5⟩ := clW_o (θ := θ) (V := X) (c := c) (p := p) (u := cvk p s q) e
            rw [o1, o2, o3, o4, o5]; exact x3 j (by omega)
      · refine ⟨fun z => absurd rfl z, fun _ => (h _ _ (fun x hx => ?_)).2 (fun z => nok (z.1 q hq))⟩
        rw [clW_ne (by omega) (by omega) (by omega) (by omega), x1 _ (by omega) (by omega) (by omega) (by omega), g1 _ (by omega), f1 _ (by omega)]
    · obtain ⟨X, rfl, x1, x2, x3⟩ := hJ
      show bl_C_load_67 _ _ _ _ _ _ _ _ _ _
      unfold bl_C_load_67
      simp only [cpU hθ hU hc, true_and]
      have hpX : HP θ X p := hp.eq (by rw [x1 _ (by omega) (by omega) (by omega) (by omega), g1 _ (by omega), f1 _ (by omega)]) (by rw [x1 _ (by omega) (by omega) (by omega) (by omega), g1 _ (by omega), f1 _ (by omega)])
      have X0 : ∀ j, X (tb θ + c) j = W0 (tb θ + c) j := fun j => by rw [x1 _ (by omega) (by omega) (by omega) (by omega), g1 _ (by omega)]
      have X1 : ∀ k, k < cvP p s → X (tb θ + (c + 1)) k = nI (cvl p s k) := fun k hk => by rw [x1 _ (by omega) (by omega) (by omega) (by omega)]; exact g2 k hk
      refine br_t (nI_le (Nat.le_refl _) (by show cvC p s < _; omega)) (s_points hθ hU hc hpX hs (by rw [X0]; exact f3) X1 (fun q hq => (x3 q hq).1) (fun Y t y1 y2 => ?_))
      have hfr : ∀ x, (x < tb θ + c ∨ tb θ + (c + 9) < x) → Y x = V x := fun x hx => by rw [y1 _ (by omega) (by omega), x1 _ (by omega) (by omega) (by omega) (by omega), g1 _ (by omega), f1 _ (by omega)]
      refine ⟨fun hd ht y3 y4 => ⟨Or.inr rfl, (h Y t hfr).1 ⟨x2, hd⟩ ht ⟨?_, ?_, fun k hk => ?_, fun q hq => ?_, y3, y4⟩⟩, fun hd => ⟨Or.inl rfl, (h Y t hfr).2 (fun z => hd z.2)⟩⟩
      · rw [y2 0 (by decide), X0]; exact f2
      · rw [y2 1 (by decide), X0]; exact f3
      · rw [y1 _ (by omega) (by omega)]; exact X1 k hk
      · rw [y1 _ (by omega) (by omega), y1 _ (by omega) (by omega), y1 _ (by omega) (by omega), y1 _ (by omega) (by omega)]; exact x3 q hq
end CLOAD
