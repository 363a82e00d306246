-- a packet is taken
section TAKE
variable {θ : TH} {V : VT} {U : UT} {sw : Bool} {p : PK} {c s L B : Nat} {bk : Nat → BD} {t : RS}
def CF (θ : TH) (V W : VT) : Prop := (∀ q, q ≠ tb θ + 25 → (q < tb θ + 66 ∨ tb θ + 126 ≤ q) → W q = V q) ∧ (∀ j, j ≠ 5 → j ≠ 6 → W (tb θ + 25) j = V (tb θ + 25) j)
def MF (θ : TH) (V W : VT) : Prop := (∀ q, (q < tb θ + 126 ∨ (tb θ + 127 ≤ q ∧ q < tb θ + 150)) → W q = V q) ∧ (∀ j, j < 39 → W (tb θ + 126) j = V (tb θ + 126) j)
theorem CF.mp {V1 : VT} (h : CF θ V V1) (hp : MP θ V p) : MP θ (up2 V1 (tb θ + 126) 34 0) p := hp.eq (by rw [up2_ab (by decide), h.1 _ (by omega) (by omega)]) (by rw [up2_ne (by omega), h.1 _ (by omega) (by omega)])
theorem CF.m {V1 : VT} (h : CF θ V V1) {q : Nat} (hq : tb θ + 127 ≤ q) : up2 V1 (tb θ + 126) 34 0 q = V q := by rw [up2_ne (by omega)]; exact h.1 q (by omega) (by omega)
theorem CF.j {V1 : VT} (h : CF θ V V1) {j : Nat} (hj : j ≠ 34) : up2 V1 (tb θ + 126) 34 0 (tb θ + 126) j = V (tb θ + 126) j := by rw [up2_ab hj, h.1 _ (by omega) (by omega)]
/-- one kind of packet: the reference, from what the other side left, answers the same and keeps the share -/
def DEC (θ : TH) (V : VT) (U : UT) (t : RS) (wpD : VT → UT → (Int32 → VT → UT → Prop) → Prop) (wpM : VT → UT → (Int32 → VT → UT → Prop) → Prop) : Prop := ∀ Kc : Int32 → VT → UT → Prop, (∀ (b : Bool) V1 U1, CF θ V V1 → (∃ sw1, US θ sw1 U1) → (∀ Kf : Int32 → VT → UT → Prop, (∀ V2 U2 sw2, US θ sw2 U2 → DCR θ V2 sw2 → MF θ (up2 V1 (tb θ + 126) 34 0) V2 → Kf (bZ b) V2 U2) → wpM (mS θ (up2 V1 (tb θ + 126) 34 0) t) U1 Kf) → Kc (bZ b) V1 U1) → wpD (cS θ V t) U Kc
theorem dec_format (hθ : OKt θ) (hU : US θ sw U) (hp : HP θ V p) (hm : MP θ V p) (ht : t.1 ≤ 8 * p.L) (hD : DCX θ V sw c s L B bk) : DEC θ V U t (wp_D_decodeFormat θ (tb θ + 66)) (wp_M_format θ (tb θ + 126)) := by
  intro Kc hk
  have hD' := hD
  obtain ⟨g1, g2, g3, g4, g5, g6, g7, g8, g9, g10, g11, g12, g13, g14, g15⟩ := hD
  have ht1 := rdS_ok (p := p) 1 ht
  have ht2 := rdS_ok (p := p) 2 ht1
  have r1 := rdV_lt p 1 t
  have r2 := rdV_lt p 2 (rdS p 1 t)
  have r3 := rdV_lt p 2 (rdS p 2 (rdS p 1 t))
  have p8 : ∀ a, a < 4 → 8 * 2 ^ a ≤ 64 ∧ 8 ≤ 8 * 2 ^ a ∧ 8 * 2 ^ a % 2 = 0 := by
    intro a ha
    have : a = 0 ∨ a = 1 ∨ a = 2 ∨ a = 3 := by omega
    rcases this with rfl | rfl | rfl | rfl <;> decide
  have sh8 : ∀ a, a < 4 → (8 : Int32) <<< (nI a &&& 31) = nI (8 * 2 ^ a) := by
    intro a ha
    have := p8 a ha
    rw [show (8 : Int32) = nI 8 from rfl, pk_shlN _ a (sh31 (by omega)) (by omega)]
  unfold wp_D_decodeFormat
  simp only [dcU hθ hU, true_and]
  refine ⟨by omega, s_read hθ hU hp ht (k := 1) (by decide) (fun y7 e7 => ?_)⟩
  simp only [dcU hθ hU, true_and]
  refine ⟨by omega, s_read hθ hU hp ht1 (k := 2) (by decide) ?_⟩
  simp only [dcU hθ hU, true_and]
  refine ⟨by omega, s_read hθ hU hp ht2 (k := 2) (by decide) ?_⟩
  simp only [dcU hθ hU, true_and]
  rw [cS_6, sh8 _ r2, sh8 _ r3]
  rw [nI_1] at e7
  subst e7
  have hno : ((rdS p 2 (rdS p 2 (rdS p 1 t))).2 = true ∨ ¬ rdV p 2 (rdS p 1 t) ≤ rdV p 2 (rdS p 2 (rdS p 1 t))) → Kc 0 (cS θ V (rdS p 2 (rdS p 2 (rdS p 1 t)))) U := by
    intro q
    have hcf : CF θ V (cS θ V (rdS p 2 (rdS p 2 (rdS p 1 t)))) := ⟨fun q a _ => cS_ne a, fun j a b => cS_j a b⟩
    refine hk false _ _ hcf ⟨sw, hU⟩ (fun Kf hf => ?_)
    have hmp := hcf.mp hm
    unfold wp_M_format
    simp only [IM hθ, true_and]
    refine m_read hθ hU hmp ht (k := 1) (by decide) (fun y5 e5 => m_read hθ hU hmp ht1 (k := 2) (by decide) (m_read hθ hU hmp ht2 (k := 2) (by decide) ?_))
    rw [mS_40]
    have fin := hf (mS θ (up2 (cS θ V (rdS p 2 (rdS p 2 (rdS p 1 t)))) (tb θ + 126) 34 0) (rdS p 2 (rdS p 2 (rdS p 1 t)))) U sw hU (DCR_of (hD'.keep (fun j => by rw [mS_ne (by omega), up2_ne (by omega), cS_ne (by omega)]) (fun j hj => by rw [mS_j (by omega) (by omega)]; exact hcf.j (by omega)) (fun k _ => ⟨by rw [mS_ne (by omega), up2_ne (by omega), cS_ne (by omega)], by rw [mS_ne (by omega), up2_ne (by omega), cS_ne (by omega)], by rw [mS_ne (by omega), up2_ne (by omega), cS_ne (by omega)]⟩) (fun k b _ _ hb => hb.eq (fun a _ _ => by rw [mS_ne (by omega)]; exact hcf.m (by omega))) (fun a _ _ => by rw [mS_ne (by omega), up2_ne (by omega), cS_ne (by omega)]) (fun a _ _ => by rw [mS_ne (by omega)]; exact hcf.m (by omega)) (fun a _ _ => by have := cpA_or sw; rw [mS_ne (by omega), up2_ne (by omega), cS_ne (by omega)]) (fun j _ => by have := vpA_or sw; rw [mS_ne (by omega), up2_ne (by omega), cS_ne (by omega)]) (by have := vpA_or sw; rw [mS_ne (by omega), up2_ne (by omega), cS_ne (by omega)]) (fun la _ _ j _ _ => by rw [mS_ne (by omega), hcf.m (by omega)]))) ⟨fun q hq => by rw [mS_ne (by omega)], fun j hj => by rw [mS_j (by omega) (by omega)]⟩
    refine ⟨fun _ => fin, fun z => ⟨fun z2 => ?_, fun _ => fin⟩⟩
    exfalso
    rcases q with q | q
    · rw [bZ_0.1 z] at q; cases q
    · exact q ((nI_leI (by omega) (by omega)).1 z2)
  refine ⟨by omega, fun q => hno (Or.inl ?_), fun q => pk_le (rdV p 2 (rdS p 1 t)) (rdV p 2 (rdS p 2 (rdS p 1 t))) (fun q2 V22 h22 V23 h23 V24 h24 V25 h25 V26 h26 V27 h27 => ?_) (fun q2 => hno (Or.inr (by omega)))⟩
  · cases e : (rdS p 2 (rdS p 2 (rdS p 1 t))).2
    · rw [e] at q; exact absurd rfl q
    · rfl
  · have hcf : CF θ V V27 := by
      refine ⟨fun a a1 a2 => ?_, fun j a1 a2 => ?_⟩
      · rw [h27, h26, h25, h24, h23, h22, up2_ne (by omega), up2_ne (by omega), up2_ne (by omega), up2_ne (by omega), up2_ne (by omega), up2_ne (by omega), cS_ne a1]
      · rw [h27, h26, h25, h24, h23, h22, up2_ne (by omega), up2_ne (by omega), up2_ne (by omega), up2_ne (by omega), up2_ne (by omega), up2_ne (by omega), cS_j a1 a2]
    have hoth : ∀ a, a ≠ tb θ + 66 → a ≠ tb θ + 25 → V27 a = V a := fun a a1 a2 => by rw [h27, h26, h25, h24, h23, h22, up2_ne a1, up2_ne a1, up2_ne a1, up2_ne a1, up2_ne a1, up2_ne a1, cS_ne a2]
    have v3 : V27 (tb θ + 66) 3 = nI (rdV p 1 t + 1) := by rw [h27, h26, h25, h24, h23, h22, up2_ab (by decide), up2_ab (by decide), up2_ab (by decide), up2_ab (by decide), up2_ab (by decide), up2_aa]
    have v4 : V27 (tb θ + 66) 4 = nI (8 * 2 ^ rdV p 2 (rdS p 1 t)) := by rw [h27, h26, h25, h24, h23, up2_ab (by decide), up2_ab (by decide), up2_ab (by decide), up2_ab (by decide), up2_aa]
    have v5 : V27 (tb θ + 66) 5 = nI (8 * 2 ^ rdV p 2 (rdS p 2 (rdS p 1 t))) := by rw [h27, h26, h25, h24, up2_ab (by decide), up2_ab (by decide), up2_ab (by decide), up2_aa]
    have v6 : V27 (tb θ + 66) 6 = 0 := by rw [h27, h26, h25, up2_ab (by decide), up2_ab (by decide), up2_aa]
    have v11 : V27 (tb θ + 66) 11 = 0 := by rw [h27, h26, up2_ab (by decide), up2_aa]
    have v15 : V27 (tb θ + 66) 15 = 0 := by rw [h27, up2_aa]
    have v2 : V27 (tb θ + 66) 2 = nI B := by rw [h27, h26, h25, h24, h23, h22, up2_ab (by decide), up2_ab (by decide), up2_ab (by decide), up2_ab (by decide), up2_ab (by decide), up2_ab (by decide), cS_ne (by omega)]; exact g11
    clear h27 h26 h25 h24 h23 h22
    refine hk true _ _ hcf ⟨sw, hU⟩ (fun Kf hf => ?_)
    have hmp := hcf.mp hm
    unfold wp_M_format
    simp only [IM hθ, true_and]
    refine m_read hθ hU hmp ht (k := 1) (by decide) (fun y5 e5 => m_read hθ hU hmp ht1 (k := 2) (by decide) (m_read hθ hU hmp ht2 (k := 2) (by decide) ?_))
    rw [mS_40, sh8 _ r2, sh8 _ r3]
    rw [nI_1] at e5
    subst e5
    refine ⟨fun z => absurd q z, fun _ => br_t (nI_le q2 (by omega)) (fun V14 h14 V15 h15 V16 h16 V17 h17 V18 h18 V19 h19 => ?_)⟩
    have ooth : ∀ a, a ≠ tb θ + 126 → V19 a = V27 a := fun a a1 => by rw [h19, h18, h17, h16, h15, h14, up2_ne a1, up2_ne a1, up2_ne a1, up2_ne a1, up2_ne a1, up2_ne a1, mS_ne a1, up2_ne a1]
    have w41 : V19 (tb θ + 126) 41 = nI (rdV p 1 t + 1) := by rw [h19, h18, h17, h16, h15, h14, up2_ab (by decide), up2_ab (by decide), up2_ab (by decide), up2_ab (by decide), up2_ab (by decide), up2_aa]
    have w42 : V19 (tb θ + 126) 42 = nI (8 * 2 ^ rdV p 2 (rdS p 1 t)) := by rw [h19, h18, h17, h16, h15, up2_ab (by decide), up2_ab (by decide), up2_ab (by decide), up2_ab (by decide), up2_aa]
    have w43 : V19 (tb θ + 126) 43 = nI (8 * 2 ^ rdV p 2 (rdS p 2 (rdS p 1 t))) := by rw [h19, h18, h17, h16, up2_ab (by decide), up2_ab (by decide), up2_ab (by decide), up2_aa]
    have w53 : V19 (tb θ + 126) 53 = -1 := by rw [h19, h18, h17, up2_ab (by decide), up2_ab (by decide), up2_aa]
    have w54 : V19 (tb θ + 126) 54 = 0 := by rw [h19, h18, up2_ab (by decide), up2_aa]
    have w68 : V19 (tb θ + 126) 68 = 0 := by rw [h19, up2_aa]
    have wj : ∀ j, j ≠ 41 → j ≠ 42 → j ≠ 43 → j ≠ 53 → j ≠ 54 → j ≠ 68 → j ≠ 39 → j ≠ 40 → V19 (tb θ + 126) j = up2 V27 (tb θ + 126) 34 0 (tb θ + 126) j := fun j a1 a2 a3 a4 a5 a6 a7 a8 => by rw [h19, h18, h17, h16, h15, h14, up2_ab a6, up2_ab a5, up2_ab a4, up2_ab a3, up2_ab a2, up2_ab a1, mS_j a7 a8]
    clear h19 h18 h17 h16 h15 h14
    refine hf V19 U sw hU ⟨rdV p 1 t + 1, 8 * 2 ^ rdV p 2 (rdS p 1 t), 8 * 2 ^ rdV p 2 (rdS p 2 (rdS p 1 t)), B, bk, by omega, by rw [ooth _ (by omega)]; exact v3, w41, fun _ => ⟨(p8 _ r2).2.1, (p8 _ r2).1, (p8 _ r2).2.2, (p8 _ r3).2.1, (p8 _ r3).1, (p8 _ r3).2.2⟩, by rw [ooth _ (by omega)]; exact v4, w42, by rw [ooth _ (by omega)]; exact v5, w43, by rw [ooth _ (by omega), v15, w68], g10, by rw [ooth _ (by omega)]; exact v2, ?_, fun k hk => ?_, Or.inl ⟨w54, by rw [ooth _ (by omega)]; exact v11⟩, Or.inl ⟨by rw [ooth _ (by omega)]; exact v6, w53⟩⟩ ⟨fun q hq => by rw [ooth q (by omega), up2_ne (by omega)], fun j hj => wj j (by omega) (by omega) (by omega) (by omega) (by omega) (by omega) (by omega) (by omega)⟩
    · rw [wj 44 (by decide) (by decide) (by decide) (by decide) (by decide) (by decide) (by decide) (by decide), hcf.j (by decide)]; exact g12
    · obtain ⟨b1, b2, b3⟩ := g13 k hk
      exact ⟨b1, b2.eq (by rw [ooth _ (by omega), hoth _ (by omega) (by omega)]) (by rw [ooth _ (by omega), hoth _ (by omega) (by omega)]) (by rw [ooth _ (by omega), hoth _ (by omega) (by omega)]), b3.eq (fun a _ _ => by rw [ooth _ (by omega), hoth _ (by omega) (by omega)])⟩
theorem dec_book (hθ : OKt θ) (hU : US θ sw U) (hp : HP θ V p) (hm : MP θ V p) (ht : t.1 ≤ 8 * p.L) (hD : DCX θ V sw c s L B bk) : DEC θ V U t (wp_D_decodeBook θ (tb θ + 66)) (wp_M_book θ (tb θ + 126)) := by
  intro Kc hk
  have hD' := hD
  have hco := cpA_or sw
  have hvo := vpA_or sw
  obtain ⟨g1, g2, g3, g4, g5, g6, g7, g8, g9, g10, g11, g12, g13, g14, g15⟩ := hD
  unfold wp_D_decodeBook
  simp only [dcU hθ hU, true_and, exists_eq_left]
  rw [cS_ne (show tb θ + 66 ≠ tb θ + 25 by omega), g11]
  refine pk_le 4 B (fun q => ?_) (fun q => ?_)
  · have hB4 : B = 4 := by omega
    have hcf : CF θ V (cS θ V t) := ⟨fun q a _ => cS_ne a, fun j a b => cS_j a b⟩
    refine hk false _ _ hcf ⟨sw, hU⟩ (fun Kf hf => ?_)
    unfold wp_M_book
    simp only [IM hθ, true_and]
    rw [mS_j (by decide) (by decide), hcf.j (by decide), g12, hB4]
    refine ⟨fun z => absurd rfl z, fun _ => hf _ U sw hU (DCR_of (hD'.keep (fun j => by rw [mS_ne (by omega), up2_ne (by omega), cS_ne (by omega)]) (fun j hj => by rw [mS_j (by omega) (by omega)]; exact hcf.j (by omega)) (fun k _ => ⟨by rw [mS_ne (by omega), up2_ne (by omega), cS_ne (by omega)], by rw [mS_ne (by omega), up2_ne (by omega), cS_ne (by omega)], by rw [mS_ne (by omega), up2_ne (by omega), cS_ne (by omega)]⟩) (fun k b _ _ hb => hb.eq (fun a _ _ => by rw [mS_ne (by omega)]; exact hcf.m (by omega))) (fun a _ _ => by rw [mS_ne (by omega), up2_ne (by omega), cS_ne (by omega)]) (fun a _ _ => by rw [mS_ne (by omega)]; exact hcf.m (by omega)) (fun a _ _ => by rw [mS_ne (by omega), up2_ne (by omega), cS_ne (by omega)]) (fun j _ => by rw [mS_ne (by omega), up2_ne (by omega), cS_ne (by omega)]) (by rw [mS_ne (by omega), up2_ne (by omega), cS_ne (by omega)]) (fun la _ _ j _ _ => by rw [mS_ne (by omega), hcf.m (by omega)]))) ⟨fun q hq => by rw [mS_ne (by omega)], fun j hj => by rw [mS_j (by omega) (by omega)]⟩⟩
  · have hu := bkU (k := B) hθ hU q
    rw [nI_clamp (show B < 2 ^ 31 by omega), hu.2.2.2.2.2.2.2.2.2.1]
    -- the words
    obtain ⟨cw, hcw⟩ : ∃ cw, wdO (bkl p t) (bkE p t) = true → GRE (bkl p t) cw (bkE p t) ∧ BUD (frc (bkl p t) cw (bkE p t)) (256 - krs (bkl p t) (bkE p t)) := by
      by_cases hw : wdO (bkl p t) (bkE p t) = true
      · obtain ⟨cw, a, b⟩ := words_exist (bkE p t) (fun e _ => bkl_le e) (wdO_le hw)
        exact ⟨cw, fun _ => ⟨a, b⟩⟩
      · exact ⟨fun _ => 0, fun z => absurd z hw⟩
    refine ⟨by omega, vp_in_nI (by omega) (by decide), by omega, by omega, hu.1, s_book (cd := cw) hθ hU hp q ht (fun z => (hcw z).1) (fun W w1 w2 w3 => ?_)⟩
    have W66 : ∀ j, W (tb θ + 66) j = V (tb θ + 66) j := fun j => by rw [w1 _ (by omega) (by omega)]
    have model : ∀ V1 : VT, CF θ V V1 → ∀ Kf : Int32 → VT → UT → Prop, (∀ X, MF θ (up2 V1 (tb θ + 126) 34 0) X → (∀ j, 41 ≤ j → j ≠ 44 → X (tb θ + 126) j = V (tb θ + 126) j) → X (tb θ + 126) 44 = (if bkO p t = true then nI (B + 1) else nI B) → (∀ k b, k < B → BKP b → BKM θ V k b → BKM θ X k b) → (bkO p t = true → BKM θ X B (bkD p t cw)) → (∀ a, 157 ≤ a → X (tb θ + a) = V (tb θ + a)) → Kf (bZ (bkO p t)) X U) → wp_M_book θ (tb θ + 126) (mS θ (up2 V1 (tb θ + 126) 34 0) t) U Kf := by
      intro V1 hcf Kf hf
      refine m_book (cd := cw) (k := B) hθ hU (hcf.mp hm) q (by rw [hcf.j (by decide)]; exact g12) ht (fun z => (hcw z).1) (fun X x1 x2 x3 x4 x5 => ?_)
      refine hf X ⟨fun a ha => x1 a (by omega) (by omega), fun j hj => x2 j (by omega) (by omega) (by omega)⟩ (fun j hj hj2 => by rw [x2 j (by omega) (by omega) hj2]; exact hcf.j (by omega)) x3 (fun k b hk hb hbm => x4 k b hk hb (hbm.eq (fun a _ _ => hcf.m (by omega)))) x5 (fun a ha => by rw [x1 _ (by omega) (by omega)]; exact hcf.m (by omega))
    cases hO : bkO p t
    · refine ⟨fun z => absurd rfl z, fun _ => ?_⟩
      have hcf : CF θ V W := ⟨fun a a1 a2 => w1 a a1 (by omega), fun j a1 a2 => w2 j a1 a2⟩
      refine hk false _ _ hcf ⟨sw, hU⟩ (fun Kf hf => model W hcf Kf (fun X x1 x2 x3 x4 x5 x6 => ?_))
      rw [hO] at x3 ⊢
      have XW : ∀ a, a < 126 → X (tb θ + a) = W (tb θ + a) := fun a ha => by rw [x1.1 _ (by omega), up2_ne (by omega)]
      refine hf X U sw hU (DCR_of (hD'.keep (fun j => by rw [XW 66 (by decide)]; exact W66 j) (fun j hj => ?_) (fun k hk => ⟨?_, ?_, ?_⟩) x4 (fun a _ _ => by rw [XW _ (by omega)]; exact w1 _ (by omega) (by omega)) (fun a _ _ => x6 a (by omega)) (fun a _ _ => by rw [XW _ (by omega)]; exact w1 _ (by omega) (by omega)) (fun j _ => by rw [XW _ (by omega), w1 _ (by omega) (by omega)]) (by rw [XW _ (by omega)]; exact w1 _ (by omega) (by omega)) (fun la _ _ j _ _ => by rw [x6 157 (by decide)]))) x1
      · by_cases e : j = 44
        · subst e; rw [x3]; exact g12.symm
        · exact x2 j hj e
      · rw [XW _ (by omega)]; exact w1 _ (by omega) (by omega)
      · rw [XW _ (by omega)]; exact w1 _ (by omega) (by omega)
      · rw [XW _ (by omega)]; exact w1 _ (by omega) (by omega)
    · refine ⟨fun _ V14 h14 => ?_, fun z => absurd z (by decide)⟩
      rw [W66 2, g11, nI_1] at h14
      have hcf : CF θ V V14 := ⟨fun a a1 a2 => by rw [h14, up2_ne (by omega)]; exact w1 a a1 (by omega), fun j a1 a2 => by rw [h14, up2_ne (by omega)]; exact w2 j a1 a2⟩
      have V14W : ∀ a, a ≠ tb θ + 66 → V14 a = W a := fun a ha => by rw [h14, up2_ne ha]
      have V14j : ∀ j, j ≠ 2 → V14 (tb θ + 66) j = V (tb θ + 66) j := fun j hj => by rw [h14, up2_ab hj]; exact W66 j
      have V142 : V14 (tb θ + 66) 2 = nI (B + 1) := by rw [h14, up2_aa]
      clear h14
      refine hk true _ _ hcf ⟨sw, hU⟩ (fun Kf hf => model V14 hcf Kf (fun X x1 x2 x3 x4 x5 x6 => ?_))
      rw [hO] at x3 ⊢
      have XW : ∀ a, a < 126 → X (tb θ + a) = V14 (tb θ + a) := fun a ha => by rw [x1.1 _ (by omega), up2_ne (by omega)]
      have hbp : BKP (bkD p t cw) := by
        have hw : wdO (bkl p t) (bkE p t) = true := by
          have := hO
          unfold bkO at this
          simp only [Bool.and_eq_true] at this
          exact this.2.2.2
        exact bkD_ok hO (hcw hw).1 (hcw hw).2
      refine hf X U sw hU (DCR_of (c := c) (s := s) (L := L) (B := B + 1) (bk := fun k => if k = B then bkD p t cw else bk k) ⟨g1, by rw [XW 66 (by decide), V14j 3 (by decide)]; exact g2, by rw [x2 41 (by decide) (by decide)]; exact g3, g4, by rw [XW 66 (by decide), V14j 4 (by decide)]; exact g5, by rw [x2 42 (by decide) (by decide)]; exact g6, by rw [XW 66 (by decide), V14j 5 (by decide)]; exact g7, by rw [x2 43 (by decide) (by decide)]; exact g8, by rw [XW 66 (by decide), V14j 15 (by decide), x2 68 (by decide) (by decide)]; exact g9, by omega, by rw [XW 66 (by decide)]; exact V142, x3, fun k hk => ?_, ?_, ?_⟩) x1
      · by_cases e : k = B
        · subst e
          simp only [if_true]
          refine ⟨hbp, (w3 hO).eq ?_ ?_ ?_, x5 hO⟩
          · rw [XW _ (by omega), V14W _ (by omega)]
          · rw [XW _ (by omega), V14W _ (by omega)]
          · rw [XW _ (by omega), V14W _ (by omega)]
        · simp only [e, if_false]
          obtain ⟨b1, b2, b3⟩ := g13 k (by omega)
          refine ⟨b1, b2.eq ?_ ?_ ?_, x4 k _ (by omega) b1 b3⟩
          · rw [XW _ (by omega), V14W _ (by omega)]; exact w1 _ (by omega) (by omega)
          · rw [XW _ (by omega), V14W _ (by omega)]; exact w1 _ (by omega) (by omega)
          · rw [XW _ (by omega), V14W _ (by omega)]; exact w1 _ (by omega) (by omega)
      · rcases g14 with ⟨a, b⟩ | ⟨a, sz, b1, b2, b3, b4, b5, b6⟩
        · exact Or.inl ⟨by rw [x2 54 (by decide) (by decide)]; exact a, by rw [XW 66 (by decide), V14j 11 (by decide)]; exact b⟩
        · refine Or.inr ⟨by rw [x2 54 (by decide) (by decide)]; exact a, sz, b1, b2, by rw [XW 66 (by decide), V14j 11 (by decide)]; exact b3, by rw [x2 57 (by decide) (by decide)]; exact b4, ?_, fun ch x hc hx => ?_⟩
          · unfold mrk at b5 ⊢
            rw [XW 66 (by decide), V14j 12 (by decide), x2 55 (by decide) (by decide), x2 56 (by decide) (by decide), x2 58 (by decide) (by decide), x6 158 (by decide)]; exact b5
          · rw [XW (101 + ch) (by omega), XW (104 + ch) (by omega), V14W _ (by omega), V14W _ (by omega), w1 _ (by omega) (by omega), w1 _ (by omega) (by omega), x6 159 (by decide), x6 160 (by decide)]
            exact b6 ch x hc hx
      · rcases g15 with ⟨a, b⟩ | ⟨a, b, la, cd, vd, y1, y2, y3, y4, y5, y6, y7, y8⟩
        · exact Or.inl ⟨by rw [XW 66 (by decide), V14j 6 (by decide)]; exact a, by rw [x2 53 (by decide) (by decide)]; exact b⟩
        · refine Or.inr ⟨by rw [XW 66 (by decide), V14j 6 (by decide)]; exact a, b, la, cd, vd, y1, by rw [x2 53 (by decide) (by decide)]; exact y2, ?_, y4.eq (fun a _ _ => by rw [XW _ (by omega), V14W _ (by omega)]; exact w1 _ (by omega) (by omega)), y5.eq (x6 157 (by decide)), ?_, y7.eq (fun j _ => by rw [XW _ (by omega), V14W _ (by omega), w1 _ (by omega) (by omega)]) (by rw [XW _ (by omega), V14W _ (by omega)]; exact w1 _ (by omega) (by omega)), y8.eq (x6 157 (by decide))⟩
          · obtain ⟨p1, p2, p3, p4, p5, p6⟩ := y3
            refine ⟨p1, p2, p3, p4, fun q hq => ?_, p6⟩
            obtain ⟨o1, o2, o3, o4, o5⟩ := p5 q hq
            exact ⟨o1, o2, fun z => by have := o3 z; omega, fun m z => by have := o4 m z; omega, fun z m z2 => by have := o5 z m z2; omega⟩
          · obtain ⟨p1, p2, p3, p4, p5, p6, p7, p8, p9, p10⟩ := y6
            refine ⟨p1, p2, p3, p4, p5, p6, p7, by omega, fun k m hk hm => ?_, p10⟩
            obtain ⟨o1, o2, o3⟩ := p9 k m hk hm
            have : ¬ m = B := by omega
            simp only [this, if_false]
            exact ⟨by omega, o2, o3⟩
end TAKE
