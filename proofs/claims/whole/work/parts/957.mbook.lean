-- a book is read, the reference
section MBOOK
variable {θ : TH} {V : VT} {U : UT} {sw : Bool} {p : PK} {s : RS} {k : Nat} {cd : Nat → Nat}
theorem BKM.keep {W : VT} {j : Nat} {b : BD} (hb : BKP b) (h : BKM θ V j b) (hj : j < k) (h0 : ∀ i, i ≠ k → W (tb θ + 150) i = V (tb θ + 150) i ∧ W (tb θ + 151) i = V (tb θ + 151) i ∧ W (tb θ + 154) i = V (tb θ + 154) i) (h1 : ∀ i, i < 8 * k → W (tb θ + 152) i = V (tb θ + 152) i ∧ W (tb θ + 153) i = V (tb θ + 153) i) (h2 : ∀ i, i < 32 * k → W (tb θ + 155) i = V (tb θ + 155) i) : BKM θ W j b := by
  obtain ⟨b1, b2, b3, b4, _⟩ := hb
  obtain ⟨c1, c2, c3, c4, c5⟩ := h
  obtain ⟨z1, z2, z3⟩ := h0 j (by omega)
  refine ⟨by rw [z2]; exact c1, by rw [z1]; exact c2, fun e he => ?_, by rw [z3]; exact c4, fun hv e i he hi => ?_⟩
  · obtain ⟨y1, y2⟩ := h1 (8 * j + e) (by omega)
    rw [y1, y2]; exact c3 e he
  · rw [h2 _ (by omega)]; exact c5 hv e i he hi
theorem m_book {K : Int32 → VT → UT → Prop} (hθ : OKt θ) (hU : US θ sw U) (hp : MP θ V p) (hk : k < 4) (hV : V (tb θ + 126) 44 = nI k) (hs : s.1 ≤ 8 * p.L) (hg : wdO (bkl p s) (bkE p s) = true → GRE (bkl p s) cd (bkE p s)) (h : ∀ W, (∀ q, q ≠ tb θ + 126 → (q < tb θ + 150 ∨ tb θ + 156 < q) → W q = V q) → (∀ j, j ≠ 39 → j ≠ 40 → j ≠ 44 → W (tb θ + 126) j = V (tb θ + 126) j) → W (tb θ + 126) 44 = (if bkO p s = true then nI (k + 1) else nI k) → (∀ j b, j < k → BKP b → BKM θ V j b → BKM θ W j b) → (bkO p s = true → BKM θ W k (bkD p s cd)) → K (bZ (bkO p s)) W U) : wp_M_book θ (tb θ + 126) (mS θ V s) U K := by
  unfold wp_M_book
  simp only [UM hU, IM hθ, true_and, exists_eq_left]
  have e44 : ∀ X s', X (tb θ + 126) 44 = nI k → mS θ X s' (tb θ + 126) 44 = nI k := fun X s' hX => by rw [mS_j (by decide) (by decide)]; exact hX
  rw [e44 V s hV]
  obtain ⟨e1, e8⟩ := bkE_b (p := p) (s := s)
  obtain ⟨d1, d4⟩ := bkd_b (p := p) (s := s)
  have hkin : vp_in (nI k) 4 := vp_in_nI (by omega) (by decide)
  refine ⟨fun _ => ⟨by omega, ?_⟩, fun q => absurd ((nI_eq (b := 4) (by omega) (by decide)).1 q) (by omega)⟩
  refine m_read hθ hU hp hs (k := 2) (by decide) ⟨hkin, fun V10 h10 => ?_⟩
  rw [nI_1, nI_clamp (show k < 2 ^ 31 by omega), mS_up (by omega)] at h10
  subst h10
  simp only [UM hU, IM hθ, true_and, exists_eq_left]
  refine ⟨by omega, ?_⟩
  refine m_read hθ hU (hp.eq (by rw [up2_ne (by omega)]) (up2_ne (by omega))) (rdS_ok 2 hs) (k := 3) (by decide) ?_
  rw [e44 _ _ (by rw [up2_ne (by omega)]; exact hV)]
  refine ⟨hkin, fun V18 h18 => ?_⟩
  rw [nI_1, nI_clamp (show k < 2 ^ 31 by omega), mS_up (by omega)] at h18
  subst h18
  have f1 : ∀ q, q ≠ tb θ + 150 → q ≠ tb θ + 151 → up2 (up2 V (tb θ + 150) k (nI (rdV p 2 s + 1))) (tb θ + 151) k (nI (rdV p 3 (rdS p 2 s) + 1)) q = V q := fun q a b => by rw [up2_ne b, up2_ne a]
  have f2 : up2 (up2 V (tb θ + 150) k (nI (rdV p 2 s + 1))) (tb θ + 151) k (nI (rdV p 3 (rdS p 2 s) + 1)) (tb θ + 151) k = nI (bkE p s) := by rw [up2_aa]; rfl
  have f3 : up2 (up2 V (tb θ + 150) k (nI (rdV p 2 s + 1))) (tb θ + 151) k (nI (rdV p 3 (rdS p 2 s) + 1)) (tb θ + 150) k = nI (bkd p s) := by rw [up2_ne (by omega), up2_aa]; rfl
  have f4 : ∀ i, i ≠ k → up2 (up2 V (tb θ + 150) k (nI (rdV p 2 s + 1))) (tb θ + 151) k (nI (rdV p 3 (rdS p 2 s) + 1)) (tb θ + 150) i = V (tb θ + 150) i ∧ up2 (up2 V (tb θ + 150) k (nI (rdV p 2 s + 1))) (tb θ + 151) k (nI (rdV p 3 (rdS p 2 s) + 1)) (tb θ + 151) i = V (tb θ + 151) i := fun i hi => ⟨by rw [up2_ne (by omega), up2_ab hi], by rw [up2_ab hi, up2_ne (by omega)]⟩
  generalize up2 (up2 V (tb θ + 150) k (nI (rdV p 2 s + 1))) (tb θ + 151) k (nI (rdV p 3 (rdS p 2 s) + 1)) = W0 at f1 f2 f3 f4 ⊢
  have hp0 : MP θ W0 p := hp.eq (by rw [f1 _ (by omega) (by omega)]) (f1 _ (by omega) (by omega))
  have h44 : W0 (tb θ + 126) 44 = nI k := by rw [f1 _ (by omega) (by omega)]; exact hV
  refine m_read hθ hU hp0 (rdS_ok 3 (rdS_ok 2 hs)) (k := 1) (by decide) ?_
  simp only [UM hU, IM hθ, true_and, exists_eq_left]
  rw [e44 _ _ h44, nI_clamp (show k < 2 ^ 31 by omega), mS_ne (show tb θ + 151 ≠ tb θ + 126 by omega), f2, show (8 : Int32) * nI k = nI (8 * k) from pk_mul 8 k]
  -- a state that is refused
  have no : ∀ X t, bkO p s = false → (∀ q, q ≠ tb θ + 150 → q ≠ tb θ + 151 → q ≠ tb θ + 152 → q ≠ tb θ + 153 → q ≠ tb θ + 154 → q ≠ tb θ + 155 → q ≠ tb θ + 156 → X q = V q) → (∀ i, i ≠ k → X (tb θ + 150) i = V (tb θ + 150) i ∧ X (tb θ + 151) i = V (tb θ + 151) i ∧ X (tb θ + 154) i = V (tb θ + 154) i) → (∀ i, i < 8 * k → X (tb θ + 152) i = V (tb θ + 152) i ∧ X (tb θ + 153) i = V (tb θ + 153) i) → (∀ i, i < 32 * k → X (tb θ + 155) i = V (tb θ + 155) i) → K 0 (mS θ X t) U := by
    intro X t hO a0 a1 a2 a3
    rw [hO] at h
    refine h _ (fun q x y => by rw [mS_ne x]; exact a0 q (by omega) (by omega) (by omega) (by omega) (by omega) (by omega) (by omega)) (fun j x y _ => by rw [mS_j x y, a0 _ (by omega) (by omega) (by omega) (by omega) (by omega) (by omega) (by omega)]) ?_ (fun j b hj hb hbm => ?_) (fun q => Bool.noConfusion q)
    · rw [e44 X t (by rw [a0 _ (by omega) (by omega) (by omega) (by omega) (by omega) (by omega) (by omega)]; exact hV)]
      rfl
    · refine hbm.keep hb hj (fun i hi => ?_) (fun i hi => ?_) (fun i hi => ?_)
      · rw [mS_ne (by omega), mS_ne (by omega), mS_ne (by omega)]; exact a1 i hi
      · rw [mS_ne (by omega), mS_ne (by omega)]; exact a2 i hi
      · rw [mS_ne (by omega)]; exact a3 i hi
  -- after the lengths
  have tail : ∀ W z, z = bZ (bko p s) → FB W0 W (tb θ + 152) (8 * k) 8 → (bko p s = true → ∀ e, e < bkE p s → W (tb θ + 152) (8 * k + e) = nI (bkl p s e)) → wb_M_book_94 θ (tb θ + 126) z K (mS θ W (bk4 p s)) U := by
    intro W z hz hF hW
    have g0 : ∀ q, q ≠ tb θ + 150 → q ≠ tb θ + 151 → q ≠ tb θ + 152 → W q = V q := fun q a b c => by rw [hF.1 q c, f1 q a b]
    have g1 : ∀ i, i ≠ k → W (tb θ + 150) i = V (tb θ + 150) i ∧ W (tb θ + 151) i = V (tb θ + 151) i := fun i hi => by rw [hF.1 _ (by omega), hF.1 _ (by omega)]; exact f4 i hi
    have g2 : ∀ i, i < 8 * k → W (tb θ + 152) i = V (tb θ + 152) i := fun i hi => by rw [hF.2 i (by omega), f1 _ (by omega) (by omega)]
    subst hz
    unfold wb_M_book_94
    simp only [UM hU, IM hθ, true_and, exists_eq_left]
    have no1 : bkO p s = false → K 0 (mS θ W (bk4 p s)) U := fun hO => no W _ hO (fun q a b c _ _ _ _ => g0 q a b c) (fun i hi => ⟨(g1 i hi).1, (g1 i hi).2, by rw [g0 _ (by omega) (by omega) (by omega)]⟩) (fun i hi => ⟨g2 i hi, by rw [g0 _ (by omega) (by omega) (by omega)]⟩) (fun i hi => by rw [g0 _ (by omega) (by omega) (by omega)])
    cases hbo : bko p s
    · exact ⟨fun _ => no1 (by unfold bkO; rw [hbo]; simp), fun q => absurd rfl q⟩
    · refine ⟨fun q => absurd q (by decide), fun _ => ?_⟩
      rw [mS_40]
      cases ho4 : (bk4 p s).2
      · refine ⟨fun q => absurd rfl q, fun _ => ?_⟩
        have hpW : MP θ W p := hp0.eq (by rw [hF.1 _ (by omega)]) (hF.1 _ (by omega))
        have hW44 : W (tb θ + 126) 44 = nI k := by rw [g0 _ (by omega) (by omega) (by omega)]; exact hV
        rw [e44 W _ hW44]
        refine m_vec (E := bkE p s) (d := bkd p s) hθ hU hpW hk (bk4_ok hs) e1 e8 d1 d4 (by rw [hF.1 _ (by omega)]; exact f2) (by rw [hF.1 _ (by omega)]; exact f3) (fun X x1 x2 x3 x4 x5 => ?_)
        have k0 : ∀ q, q ≠ tb θ + 150 → q ≠ tb θ + 151 → q ≠ tb θ + 152 → q ≠ tb θ + 154 → q ≠ tb θ + 155 → q ≠ tb θ + 156 → X q = V q := fun q a b c d e f => by rw [x1 q d e f]; exact g0 q a b c
        have k1 : ∀ i, i ≠ k → X (tb θ + 150) i = V (tb θ + 150) i ∧ X (tb θ + 151) i = V (tb θ + 151) i ∧ X (tb θ + 154) i = V (tb θ + 154) i := fun i hi => ⟨by rw [x1 _ (by omega) (by omega) (by omega)]; exact (g1 i hi).1, by rw [x1 _ (by omega) (by omega) (by omega)]; exact (g1 i hi).2, by rw [x2 i hi, g0 _ (by omega) (by omega) (by omega)]⟩
        have k2 : ∀ i, i < 8 * k → X (tb θ + 152) i = V (tb θ + 152) i ∧ X (tb θ + 153) i = V (tb θ + 153) i := fun i hi => ⟨by rw [x1 _ (by omega) (by omega) (by omega)]; exact g2 i hi, by rw [x1 _ (by omega) (by omega) (by omega), g0 _ (by omega) (by omega) (by omega)]⟩
        have k3 : ∀ i, i < 32 * k → X (tb θ + 155) i = V (tb θ + 155) i := fun i hi => by rw [x3 i (by omega), g0 _ (by omega) (by omega) (by omega)]
        have no2 : bkO p s = false → K 0 (mS θ X (bk5 p s)) U := fun hO => no X _ hO (fun q a b c _ d e f => k0 q a b c d e f) k1 k2 k3
        cases hvo : vecO p (bk4 p s)
        · exact ⟨fun _ => no2 (by unfold bkO; rw [hvo]; simp), fun q => absurd rfl q⟩
        · refine ⟨fun q => absurd q (by decide), fun _ => ?_⟩
          rw [mS_40]
          show ((¬ bZ (bk5 p s).2 = 0 → K 0 (mS θ X (bk5 p s)) U) ∧ (bZ (bk5 p s).2 = 0 → _))
          cases hout : (bk5 p s).2
          · refine ⟨fun q => absurd rfl q, fun _ => ?_⟩
            simp only [UM hU, IM hθ, true_and, exists_eq_left]
            refine ⟨by omega, ?_⟩
            have hX44 : X (tb θ + 126) 44 = nI k := by rw [k0 _ (by omega) (by omega) (by omega) (by omega) (by omega) (by omega)]; exact hV
            rw [e44 X _ hX44, nI_clamp (show k < 2 ^ 31 by omega), mS_ne (show tb θ + 151 ≠ tb θ + 126 by omega), show (8 : Int32) * nI k = nI (8 * k) from pk_mul 8 k]
            have eE : X (tb θ + 151) k = nI (bkE p s) := by rw [x1 _ (by omega) (by omega) (by omega), hF.1 _ (by omega)]; exact f2
            have ed : X (tb θ + 150) k = nI (bkd p s) := by rw [x1 _ (by omega) (by omega) (by omega), hF.1 _ (by omega)]; exact f3
            rw [eE]
            refine ⟨hkin, m_words (ln := bkl p s) (cd := cd) hθ hU hk e8 (fun e he => ⟨?_, bkl_le e⟩) hg (fun Y y1 y2 => ?_)⟩
            · rw [mS_ne (by omega), x1 _ (by omega) (by omega) (by omega)]; exact hW hbo e he
            · have hO : bkO p s = wdO (bkl p s) (bkE p s) := by unfold bkO; rw [hvo, hbo, hout]; simp
              rw [hO] at h
              have Y126 : ∀ j, Y (tb θ + 126) j = mS θ X (bk5 p s) (tb θ + 126) j := fun j => by rw [y1.1 _ (by omega)]; rfl
              have YX : ∀ q, q ≠ tb θ + 126 → q ≠ tb θ + 153 → Y q = X q := fun q a b => by rw [y1.1 q b, mS_ne a]
              have Y153 : ∀ i, i < 8 * k → Y (tb θ + 153) i = X (tb θ + 153) i := fun i hi => by rw [y1.2 i (by omega), mS_ne (by omega)]
              have keep : ∀ j b, j < k → BKP b → BKM θ V j b → BKM θ Y j b := by
                intro j b hj hb hbm
                refine hbm.keep hb hj (fun i hi => ?_) (fun i hi => ?_) (fun i hi => ?_)
                · rw [YX _ (by omega) (by omega), YX _ (by omega) (by omega), YX _ (by omega) (by omega)]; exact k1 i hi
                · rw [YX _ (by omega) (by omega), Y153 i hi]; exact k2 i hi
                · rw [YX _ (by omega) (by omega)]; exact k3 i hi
              cases hw : wdO (bkl p s) (bkE p s)
              · rw [hw] at h
                refine ⟨fun q => absurd rfl q, fun _ => h Y (fun q a b => ?_) (fun j a b c => ?_) ?_ keep (fun q => Bool.noConfusion q)⟩
                · rw [YX q a (by omega)]; exact k0 q (by omega) (by omega) (by omega) (by omega) (by omega) (by omega)
                · rw [Y126, mS_j a b, k0 _ (by omega) (by omega) (by omega) (by omega) (by omega) (by omega)]
                · rw [Y126, e44 X _ hX44]; rfl
              · rw [hw] at h
                refine ⟨fun _ V53 h53 => ?_, fun q => absurd q (by decide)⟩
                rw [h53, show Y (tb θ + 126) 44 = nI k by rw [Y126, e44 X _ hX44], nI_1]
                refine h _ (fun q a b => ?_) (fun j a b c => ?_) ?_ (fun j b hj hb hbm => ?_) (fun _ => ?_)
                · rw [up2_ne a, YX q a (by omega)]; exact k0 q (by omega) (by omega) (by omega) (by omega) (by omega) (by omega)
                · rw [up2_ab c, Y126, mS_j a b, k0 _ (by omega) (by omega) (by omega) (by omega) (by omega) (by omega)]
                · rw [up2_aa]; rfl
                · exact (keep j b hj hb hbm).eq (fun a _ _ => up2_ne (by omega))
                · refine BKM.eq (V := Y) ⟨?_, ?_, fun e he => ⟨?_, ?_⟩, ?_, fun hh e i he hi => ?_⟩ (fun a _ _ => up2_ne (by omega))
                  · rw [YX _ (by omega) (by omega)]; exact eE
                  · rw [YX _ (by omega) (by omega)]; exact ed
                  · rw [YX _ (by omega) (by omega), x1 _ (by omega) (by omega) (by omega)]; exact hW hbo e he
                  · exact y2 hw e he
                  · rw [YX _ (by omega) (by omega)]; exact x4
                  · rw [YX _ (by omega) (by omega)]; exact x5 hh hvo e i he hi
          · exact ⟨fun _ => no2 (by unfold bkO; rw [hout]; simp), fun q => absurd q (by decide)⟩
      · refine ⟨fun _ => no1 ?_, fun q => absurd q (by decide)⟩
        have : (bk5 p s).2 = true := vecS_stay ho4
        unfold bkO; rw [this]; simp
  rcases rdV1 p (rdS p 3 (rdS p 2 s)) with z | z
  · have hr : bkr p s = false := by
      show decide _ = false; rw [show rdV p 1 (bk2 p s) = 0 from z]; rfl
    rw [z]
    refine ⟨fun _ => ⟨by omega, hkin, m_lens (E := bkE p s) hθ hU hp0 hk (bk3_ok hs) e8 (fun W hF hW => ?_)⟩, fun q => absurd q (by decide)⟩
    have := tail W 1 (by unfold bko; rw [hr]; rfl) hF (fun _ => by unfold bkl; rw [hr]; exact hW)
    unfold bk4 at this
    rw [hr] at this
    exact this
  · have hr : bkr p s = true := by
      show decide _ = true; rw [show rdV p 1 (bk2 p s) = 1 from z]; rfl
    rw [z]
    have hbo : bko p s = (ordR p (bkE p s) (bk3 p s)).1 := by unfold bko; rw [if_pos hr]
    refine ⟨fun q => absurd rfl q, fun _ => ⟨by omega, hkin, m_ord (E := bkE p s) hθ hU hp0 hk (bk3_ok hs) e8 (fun W hF hW => ?_)⟩⟩
    have := tail W _ (by rw [hbo]) hF (fun q => by unfold bkl; rw [if_pos hr]; exact hW (hbo.symm.trans q))
    unfold bk4 at this
    rw [if_pos hr] at this
    exact this
end MBOOK
