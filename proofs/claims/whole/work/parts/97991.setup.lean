-- a setup is taken; a block of sound is taken
section SETUP
variable {θ : TH} {V : VT} {U : UT} {sw : Bool} {p : PK} {c s L B : Nat} {bk : Nat → BD} {t : RS}
theorem US_swap (hU : US θ sw U) : US θ (!sw) (up2 (up2 (up2 (up2 U (tb θ + 66) 7 (tb θ + cpA (!sw))) (tb θ + 66) 9 (tb θ + cpA sw)) (tb θ + 66) 8 (tb θ + vpA (!sw))) (tb θ + 66) 10 (tb θ + vpA sw)) := by
  have i7 : uI 66 7 = 69 := by decide +kernel
  have i8 : uI 66 8 = 79 := by decide +kernel
  have i9 : uI 66 9 = 85 := by decide +kernel
  have i10 : uI 66 10 = 95 := by decide +kernel
  unfold US at hU ⊢
  rw [hU, uf_up, uf_up, uf_up, uf_up]
  congr 1
  funext i j
  cases sw
  · show up2 (up2 (up2 (up2 uI 66 7 85) 66 9 69) 66 8 95) 66 10 79 i j = up2 (up2 (up2 (up2 uI 66 7 85) 66 8 95) 66 9 69) 66 10 79 i j
    rw [up2_comm (a := 66) (i := 9) (b := 66) (j := 8) (Or.inr (by decide))]
  · show up2 (up2 (up2 (up2 (up2 (up2 (up2 (up2 uI 66 7 85) 66 8 95) 66 9 69) 66 10 79) 66 7 69) 66 9 85) 66 8 79) 66 10 95 i j = uI i j
    by_cases hi : i = 66
    · subst hi
      by_cases h10 : j = 10
      · subst h10; rw [up2_aa, i10]
      · by_cases h8 : j = 8
        · subst h8; rw [up2_ab h10, up2_aa, i8]
        · by_cases h9 : j = 9
          · subst h9; rw [up2_ab h10, up2_ab h8, up2_aa, i9]
          · by_cases h7 : j = 7
            · subst h7; rw [up2_ab h10, up2_ab h8, up2_ab h9, up2_aa, i7]
            · simp only [up2_ab h10, up2_ab h8, up2_ab h9, up2_ab h7]
    · simp only [up2_ne hi]
set_option maxHeartbeats 4000000 in
theorem dec_setup (hθ : OKt θ) (hU : US θ sw U) (hp : HP θ V p) (hm : MP θ V p) (ht : t.1 ≤ 8 * p.L) (hD : DCX θ V sw c s L B bk) : DEC θ V U t (wp_D_decodeSetup θ (tb θ + 66)) (wp_M_setup θ (tb θ + 126)) := by
  intro Kc hk
  have hD' := hD
  have hco := cpA_or sw
  have hvo := vpA_or sw
  have hcn := cpA_or (!sw)
  have hvn := vpA_or (!sw)
  have hne : cpA (!sw) ≠ cpA sw ∧ vpA (!sw) ≠ vpA sw := by cases sw <;> decide
  obtain ⟨g1, g2, g3, g4, g5, g6, g7, g8, g9, g10, g11, g12, g13, g14, g15⟩ := hD
  obtain ⟨nl, hnl, hnl2, hnl3⟩ : ∃ nl : Nat, (nl = 0 ∨ nl = 48) ∧ (∀ la, (la = 0 ∨ la = 48) → V (tb θ + 126) 53 = nI la → la ≠ nl) ∧ ((V (tb θ + 126) 53 = 0 → nl = 48) ∧ (¬ V (tb θ + 126) 53 = 0 → nl = 0)) := by
    by_cases h0 : V (tb θ + 126) 53 = 0
    · refine ⟨48, Or.inr rfl, fun la hla e => ?_, fun _ => rfl, fun z => absurd h0 z⟩
      rcases hla with rfl | rfl
      · decide
      · rw [h0] at e; exact absurd e (by decide)
    · refine ⟨0, Or.inl rfl, fun la hla e => ?_, fun z => absurd z h0, fun _ => rfl⟩
      rcases hla with rfl | rfl
      · exact absurd e h0
      · decide
  -- whether it is accepted
  let ACC : Prop := 0 < c ∧ CVO p B t ∧ VVO p B c bk (cv6 p t) ∧ (vq9 p (cv6 p t)).2 = false
  have e126 : ∀ X t j x, X (tb θ + 126) j = x → j ≠ 39 → j ≠ 40 → mS θ X t (tb θ + 126) j = x := fun X t j x hX a b => by rw [mS_j a b]; exact hX
  have model : ∀ V1 : VT, CF θ V V1 → ∀ U1 sw1, US θ sw1 U1 → ∀ Kf : Int32 → VT → UT → Prop, (∀ X, MF θ (up2 V1 (tb θ + 126) 34 0) X → (∀ j, 41 ≤ j → j ≠ 53 → X (tb θ + 126) j = V (tb θ + 126) j) → (∀ a, 150 ≤ a → a ≠ 157 → X (tb θ + a) = V (tb θ + a)) → (∀ j, (j < nl ∨ nl + 48 ≤ j) → X (tb θ + 157) j = V (tb θ + 157) j) → (ACC → X (tb θ + 126) 53 = nI nl → CPM θ X nl (cvD p t) → VPM θ X nl (vvD p (cv6 p t)) → Kf 1 X U1) ∧ (¬ ACC → X (tb θ + 126) 53 = V (tb θ + 126) 53 → Kf 0 X U1)) → wp_M_setup θ (tb θ + 126) (mS θ (up2 V1 (tb θ + 126) 34 0) t) U1 Kf := by
    intro V1 hcf U1 sw1 hU1 Kf hf
    obtain ⟨M0, hM0⟩ : ∃ M0, M0 = up2 V1 (tb θ + 126) 34 0 := ⟨_, rfl⟩
    have m1 : ∀ q, tb θ + 127 ≤ q → M0 q = V q := fun q hq => by rw [hM0]; exact hcf.m hq
    have m2 : ∀ j, j ≠ 34 → M0 (tb θ + 126) j = V (tb θ + 126) j := fun j hj => by rw [hM0]; exact hcf.j hj
    have hmp : MP θ M0 p := by rw [hM0]; exact hcf.mp hm
    rw [← hM0] at hf ⊢
    clear hM0
    have refuse : ∀ Y u, FB M0 Y (tb θ + 157) nl 48 → ¬ ACC → Kf 0 (mS θ Y u) U1 := by
      intro Y u hY hA
      refine (hf (mS θ Y u) ⟨fun q hq => by rw [mS_ne (by omega), hY.1 _ (by omega)], fun j hj => by rw [mS_j (by omega) (by omega), hY.1 _ (by omega)]⟩ (fun j hj hj2 => by rw [mS_j (by omega) (by omega), hY.1 _ (by omega)]; exact m2 j (by omega)) (fun a ha ha2 => by rw [mS_ne (by omega), hY.1 _ (by omega)]; exact m1 _ (by omega)) (fun j hj => by rw [mS_ne (by omega), hY.2 j hj]; rw [m1 _ (by omega)])).2 hA (by rw [mS_j (by decide) (by decide), hY.1 _ (by omega)]; exact m2 53 (by decide))
    unfold wp_M_setup
    simp only [IM hθ, true_and]
    rw [e126 M0 _ 41 (nI c) (by rw [m2 41 (by decide)]; exact g3) (by decide) (by decide), e126 M0 _ 53 _ (m2 53 (by decide)) (by decide) (by decide)]
    have c0 : nI c = 0 ↔ c = 0 := nI_eq (b := 0) (by omega) (by decide)
    rw [c0]
    refine ⟨fun hc0 => ?_, fun hc0 => refuse M0 t FB.refl (fun z => by have := z.1; omega)⟩
    have body : wb_M_setup_22 θ (tb θ + 126) (nI nl) Kf (mS θ M0 t) U1 := by
      unfold wb_M_setup_22 wb_M_setup_45 wb_M_setup_46
      simp only [IM hθ, true_and]
      refine m_cload (B := B) hθ hU1 (by omega) hmp ht g10 (by rw [m2 44 (by decide)]; exact g12) (fun W u hW => ⟨fun hcv hu hcm => ?_, fun hcv => ⟨fun _ => ⟨fun _ => refuse W u (hW.wide (by omega) (by omega)) (fun z => hcv z.2.1), fun z => absurd trivial z⟩, fun z => absurd rfl z⟩⟩)
      subst hu
      refine ⟨fun z => absurd z (by decide), fun _ => ?_⟩
      have hWp : MP θ W p := hmp.eq (by rw [hW.1 _ (by omega)]) (hW.1 _ (by omega))
      refine m_vload (B := B) (c := c) (bk := bk) hθ hU1 (by omega) hWp (cv6_ok ht) g10 g1 (by rw [hW.1 _ (by omega), m2 44 (by decide)]; exact g12) (by rw [hW.1 _ (by omega), m2 41 (by decide)]; exact g3) (fun k hk => ⟨(g13 k hk).1, (g13 k hk).2.2.eq (fun a _ _ => by rw [hW.1 _ (by omega)]; exact m1 _ (by omega))⟩) (fun Y t' r hY hr hcase => ?_)
      have hWY : FB M0 Y (tb θ + 157) nl 48 := (hW.wide (by omega) (by omega)).trans (hY.wide (by omega) (by omega))
      rcases hcase with ⟨ho, hov⟩ | ⟨hte, ⟨hr1, hvv, hvm⟩ | ⟨hr0, hvv⟩⟩
      · have hA : ¬ ACC := fun z => by have := z.2.2.2; rw [hov] at this; cases this
        refine ⟨fun _ => ⟨fun _ => refuse Y t' hWY hA, fun z => absurd trivial z⟩, fun hr0 => ⟨fun z => absurd z (by decide), fun _ => ⟨fun z => ?_, fun _ => refuse Y t' hWY hA⟩⟩⟩
        exfalso
        rw [mS_40, ho] at z; exact absurd z (by decide)
      · refine ⟨fun z => absurd (hr1.symm.trans z) (by decide), fun _ => ⟨fun z => absurd z (by decide), fun _ => ⟨fun z V16 h16 => ?_, fun z => refuse Y t' hWY (fun w => ?_)⟩⟩⟩
        · rw [mS_40, hte] at z
          have hA : ACC := ⟨by omega, hcv, hvv, bZ_0.1 z⟩
          rw [mS_upj (by decide) (by decide)] at h16
          rw [h16]
          refine (hf _ ⟨fun q hq => by rw [mS_ne (by omega), up2_ne (by omega), hWY.1 _ (by omega)], fun j hj => by rw [mS_j (by omega) (by omega), up2_ab (by omega), hWY.1 _ (by omega)]⟩ (fun j hj hj2 => by rw [mS_j (by omega) (by omega), up2_ab hj2, hWY.1 _ (by omega)]; exact m2 j (by omega)) (fun a ha ha2 => by rw [mS_ne (by omega), up2_ne (by omega), hWY.1 _ (by omega)]; exact m1 _ (by omega)) (fun j hj => by rw [mS_ne (by omega), up2_ne (by omega), hWY.2 j hj, m1 _ (by omega)])).1 hA ?_ ?_ ?_
          · rw [mS_j (by decide) (by decide), up2_aa]
          · refine CPM.eq (V := Y) ?_ (by rw [mS_ne (by omega), up2_ne (by omega)])
            obtain ⟨q1, q2, q3, q4, q5, q6⟩ := hcm
            have hcp := CVO_P hcv
            have hN := cN_le hcp
            obtain ⟨p1, p2, p3, p4, p5, p6, _⟩ := hcp
            have e : ∀ j, j < nl + 30 → Y (tb θ + 157) j = W (tb θ + 157) j := fun j hj => hY.2 j (by omega)
            refine ⟨by rw [e _ (by omega)]; exact q1, by rw [e _ (by omega)]; exact q2, fun k hk => by rw [e _ (by omega)]; exact q3 k hk, fun q hq => ?_, by rw [e _ (by omega)]; exact q5, fun i hi => by rw [e _ (by omega)]; exact q6 i hi⟩
            rw [e _ (by omega), e _ (by omega), e _ (by omega), e _ (by omega), e _ (by omega)]
            exact q4 q hq
          · exact hvm.eq (by rw [mS_ne (by omega), up2_ne (by omega)])
        · have := w.2.2.2
          rw [mS_40, hte, this] at z; exact absurd rfl z
      · have hA : ¬ ACC := fun z => hvv z.2.2.1
        exact ⟨fun _ => ⟨fun _ => refuse Y t' hWY hA, fun z => absurd trivial z⟩, fun z => absurd hr0 z⟩
    refine ⟨fun q => ?_, fun q => ?_⟩
    · have := hnl3.2 q
      rw [this] at body; exact body
    · have := hnl3.1 q
      rw [this] at body; exact body
  have c0 : nI c = 0 ↔ c = 0 := nI_eq (b := 0) (by omega) (by decide)
  -- refused
  have no : ∀ W u, (∀ q, (q < tb θ + cpA (!sw) ∨ tb θ + (cpA (!sw) + 9) < q) → q ≠ tb θ + vpA (!sw) → q ≠ tb θ + (vpA (!sw) + 1) → W q = V q) → ¬ ACC → Kc 0 (cS θ W u) U := by
    intro W u hW hA
    have hcf : CF θ V (cS θ W u) := ⟨fun a a1 a2 => by rw [cS_ne a1]; exact hW a (by omega) (by omega) (by omega), fun j a1 a2 => by rw [cS_j a1 a2, hW _ (by omega) (by omega) (by omega)]⟩
    refine hk false _ _ hcf ⟨sw, hU⟩ (fun Kf hf => model _ hcf U sw hU Kf (fun X x1 x2 x3 x4 => ⟨fun z => absurd z hA, fun _ h53 => ?_⟩))
    have XW : ∀ a, a < 126 → a ≠ 25 → X (tb θ + a) = W (tb θ + a) := fun a ha ha2 => by rw [x1.1 _ (by omega), up2_ne (by omega), cS_ne (by omega)]
    have XV : ∀ a, a < 126 → a ≠ 25 → (a < cpA (!sw) ∨ cpA (!sw) + 9 < a) → a ≠ vpA (!sw) → a ≠ vpA (!sw) + 1 → X (tb θ + a) = V (tb θ + a) := fun a a1 a2 a3 a4 a5 => by rw [XW a a1 a2]; exact hW _ (by omega) (by omega) (by omega)
    refine hf X U sw hU (DCR_of (hD'.keep (fun j => by rw [XV 66 (by decide) (by decide) (by omega) (by omega) (by omega)]) (fun j hj => ?_) (fun k hk => ⟨XV _ (by omega) (by omega) (by omega) (by omega) (by omega), XV _ (by omega) (by omega) (by omega) (by omega) (by omega), XV _ (by omega) (by omega) (by omega) (by omega) (by omega)⟩) (fun k b _ _ hb => hb.eq (fun a a1 a2 => x3 a a1 (by omega))) (fun a _ _ => XV _ (by omega) (by omega) (by omega) (by omega) (by omega)) (fun a _ _ => x3 a (by omega) (by omega)) (fun a _ _ => XV _ (by omega) (by omega) (by omega) (by omega) (by omega)) (fun j _ => by rw [XV _ (by omega) (by omega) (by omega) (by omega) (by omega)]) (XV _ (by omega) (by omega) (by omega) (by omega) (by omega)) (fun la hla e j j1 j2 => x4 j (by have := hnl2 la hla e; omega)))) x1
    by_cases e : j = 53
    · subst e; exact h53
    · exact x2 j hj e
  unfold wp_D_decodeSetup
  simp only [dcU hθ hU, true_and]
  rw [cS_ne (show tb θ + 66 ≠ tb θ + 25 by omega), g2, g11, c0]
  refine ⟨fun hc0 => no V t (fun _ _ _ _ => rfl) (fun z => by have := z.1; omega), fun hc0 => ⟨by omega, by omega, ?_⟩⟩
  refine s_cload (B := B) hθ hU hcn hp ht g10 (fun W u hW => ⟨fun hcv hu hcc => ?_, fun hcv => ⟨fun z => absurd rfl z, fun _ => no W u (fun q a _ _ => hW q a) (fun z => hcv z.2.1)⟩⟩)
  subst hu
  refine ⟨fun _ => ?_, fun z => absurd z (by decide)⟩
  simp only [dcU hθ hU, true_and]
  have W66 : ∀ j, cS θ W (cv6 p t) (tb θ + 66) j = V (tb θ + 66) j := fun j => by rw [cS_ne (by omega), hW _ (by omega)]
  rw [W66 2, W66 3, g11, g2]
  refine ⟨by omega, by omega, by omega, s_vload (B := B) (c := c) (bk := bk) hθ hU hvn (hp.eq (by rw [hW _ (by omega)]) (hW _ (by omega))) (cv6_ok ht) g10 g1 (fun k hk => ⟨(g13 k hk).1, (g13 k hk).2.1.eq (hW _ (by omega)) (hW _ (by omega)) (hW _ (by omega))⟩) (fun Y t' hY => ⟨fun hvv hte hvc => ?_, fun hvv => ⟨fun _ => no Y t' (fun q a b d => by rw [hY q b d]; exact hW q a) (fun z => hvv z.2.2.1), fun z => absurd rfl z⟩⟩)⟩
  subst hte
  refine ⟨fun z => absurd z (by decide), fun _ => ?_⟩
  have hYV : ∀ q, (q < tb θ + cpA (!sw) ∨ tb θ + (cpA (!sw) + 9) < q) → q ≠ tb θ + vpA (!sw) → q ≠ tb θ + (vpA (!sw) + 1) → Y q = V q := fun q a b d => by rw [hY q b d]; exact hW q a
  simp only [dcU hθ hU, true_and]
  rw [cS_6]
  refine ⟨by omega, fun z => ?_, fun z => no Y _ hYV (fun w => by have := w.2.2.2; rw [this] at z; exact absurd rfl z)⟩
  have hA : ACC := ⟨by omega, hcv, hvv, bZ_0.1 z⟩
  have n8 : ∀ U1 : UT, up2 U1 (tb θ + 66) 9 (tb θ + cpA sw) (tb θ + 66) 8 = U1 (tb θ + 66) 8 := fun U1 => up2_ab (by decide)
  refine ⟨by omega, fun a22 e22 => ⟨by omega, fun U24 h24 => ?_⟩⟩
  subst e22
  refine ⟨by omega, fun U26 h26 => ?_⟩
  have h8 : U26 (tb θ + 66) 8 = tb θ + vpA sw := by rw [h26, up2_ab (by decide), h24, up2_ab (by decide)]; exact (dcU hθ hU).2.2.2.2.1
  have h10 : U26 (tb θ + 66) 10 = tb θ + vpA (!sw) := by rw [h26, up2_ab (by decide), h24, up2_ab (by decide)]; exact (dcU hθ hU).2.2.2.2.2.2.1
  rw [h8, h10]
  refine ⟨by omega, fun a28 e28 => ⟨by omega, fun U30 h30 => ?_⟩⟩
  subst e28
  refine ⟨by omega, fun U32 h32 V33 h33 => ?_⟩
  have hU2 : US θ (!sw) U32 := by
    rw [h32, h30, h26, h24]; exact US_swap hU
  rw [cS_up (by omega)] at h33
  have hcf : CF θ V V33 := ⟨fun a a1 a2 => by rw [h33, cS_ne a1, up2_ne (by omega)]; exact hYV a (by omega) (by omega) (by omega), fun j a1 a2 => by rw [h33, cS_j a1 a2, up2_ne (by omega), hYV _ (by omega) (by omega) (by omega)]⟩
  refine hk true _ _ hcf ⟨!sw, hU2⟩ (fun Kf hf => model _ hcf U32 (!sw) hU2 Kf (fun X x1 x2 x3 x4 => ⟨fun _ h53 hcm hvm => ?_, fun w => absurd hA w⟩))
  have XY : ∀ a, a < 126 → a ≠ 25 → a ≠ 66 → X (tb θ + a) = Y (tb θ + a) := fun a ha ha2 ha3 => by rw [x1.1 _ (by omega), up2_ne (by omega), h33, cS_ne (by omega), up2_ne (by omega)]
  have XV : ∀ a, a < 126 → a ≠ 25 → a ≠ 66 → (a < cpA (!sw) ∨ cpA (!sw) + 9 < a) → a ≠ vpA (!sw) → a ≠ vpA (!sw) + 1 → X (tb θ + a) = V (tb θ + a) := fun a a1 a2 a6 a3 a4 a5 => by rw [XY a a1 a2 a6]; exact hYV _ (by omega) (by omega) (by omega)
  have X66 : ∀ j, j ≠ 6 → X (tb θ + 66) j = V (tb θ + 66) j := fun j hj => by rw [x1.1 _ (by omega), up2_ne (by omega), h33, cS_ne (by omega), up2_ab hj, hYV _ (by omega) (by omega) (by omega)]
  have X666 : X (tb θ + 66) 6 = 1 := by rw [x1.1 _ (by omega), up2_ne (by omega), h33, cS_ne (by omega), up2_aa]
  refine hf X U32 (!sw) hU2 (DCR_of (c := c) (s := s) (L := L) (B := B) (bk := bk) ⟨g1, by rw [X66 3 (by decide)]; exact g2, by rw [x2 41 (by decide) (by decide)]; exact g3, g4, by rw [X66 4 (by decide)]; exact g5, by rw [x2 42 (by decide) (by decide)]; exact g6, by rw [X66 5 (by decide)]; exact g7, by rw [x2 43 (by decide) (by decide)]; exact g8, by rw [X66 15 (by decide), x2 68 (by decide) (by decide)]; exact g9, g10, by rw [X66 2 (by decide)]; exact g11, by rw [x2 44 (by decide) (by decide)]; exact g12, fun k hk => ?_, ?_, Or.inr ⟨X666, by omega, nl, cvD p t, vvD p (cv6 p t), hnl, h53, CVO_P hcv, hcc.eq (fun a a1 a2 => ?_), hcm, VVO_P hvv, hvc.eq (fun j _ => by rw [XY _ (by omega) (by omega) (by omega)]) (XY _ (by omega) (by omega) (by omega)), hvm⟩⟩) x1
  · obtain ⟨b1, b2, b3⟩ := g13 k hk
    exact ⟨b1, b2.eq (XV _ (by omega) (by omega) (by omega) (by omega) (by omega) (by omega)) (XV _ (by omega) (by omega) (by omega) (by omega) (by omega) (by omega)) (XV _ (by omega) (by omega) (by omega) (by omega) (by omega) (by omega)), b3.eq (fun a a1 a2 => x3 a a1 (by omega))⟩
  · rcases g14 with ⟨a, b⟩ | ⟨a, sz, b1, b2, b3, b4, b5, b6⟩
    · exact Or.inl ⟨by rw [x2 54 (by decide) (by decide)]; exact a, by rw [X66 11 (by decide)]; exact b⟩
    · refine Or.inr ⟨by rw [x2 54 (by decide) (by decide)]; exact a, sz, b1, b2, by rw [X66 11 (by decide)]; exact b3, by rw [x2 57 (by decide) (by decide)]; exact b4, ?_, fun ch x hc hx => ?_⟩
      · unfold mrk at b5 ⊢
        rw [X66 12 (by decide), x2 55 (by decide) (by decide), x2 56 (by decide) (by decide), x2 58 (by decide) (by decide), x3 158 (by decide) (by decide)]; exact b5
      · rw [XV (101 + ch) (by omega) (by omega) (by omega) (by omega) (by omega) (by omega), XV (104 + ch) (by omega) (by omega) (by omega) (by omega) (by omega) (by omega), x3 159 (by decide) (by decide), x3 160 (by decide) (by decide)]
        exact b6 ch x hc hx
  · rw [XY _ (by omega) (by omega) (by omega)]
    rw [hY _ (by omega) (by omega)]
end SETUP
