-- what take keeps; the questions
section KEEP
variable {θ : TH} {V V2 : VT} {U : UT} {sw : Bool} {D : DT}
theorem CPM.loc {la B : Nat} {c : CD} (h : CPM θ V la c) (hp : CPP c B) (e : ∀ j, la ≤ j → j < la + 48 → V2 (tb θ + 157) j = V (tb θ + 157) j) : CPM θ V2 la c := by
  have hN := cN_le hp
  obtain ⟨p1, p2, p3, p4, p5, p6, _⟩ := hp
  obtain ⟨q1, q2, q3, q4, q5, q6⟩ := h
  refine ⟨by rw [e _ (by omega) (by omega)]; exact q1, by rw [e _ (by omega) (by omega)]; exact q2, fun k hk => by rw [e _ (by omega) (by omega)]; exact q3 k hk, fun q hq => ?_, by rw [e _ (by omega) (by omega)]; exact q5, fun i hi => by rw [e _ (by omega) (by omega)]; exact q6 i hi⟩
  rw [e _ (by omega) (by omega), e _ (by omega) (by omega), e _ (by omega) (by omega), e _ (by omega) (by omega), e _ (by omega) (by omega)]
  exact q4 q hq
theorem VPM.loc {la B c : Nat} {v : VD} {bk : Nat → BD} (h : VPM θ V la v) (hp : VPP v B c bk) (e : ∀ j, la ≤ j → j < la + 48 → V2 (tb θ + 157) j = V (tb θ + 157) j) : VPM θ V2 la v := by
  obtain ⟨z1, z2, z3, z4, z5, z6, z7, z8⟩ := hp
  obtain ⟨q1, q2, q3, q4, q5, q6, q7, q8⟩ := h
  refine ⟨by rw [e _ (by omega) (by omega)]; exact q1, by rw [e _ (by omega) (by omega)]; exact q2, by rw [e _ (by omega) (by omega)]; exact q3, by rw [e _ (by omega) (by omega)]; exact q4, by rw [e _ (by omega) (by omega)]; exact q5, by rw [e _ (by omega) (by omega)]; exact q6, fun k hk => by rw [e _ (by omega) (by omega)]; exact q7 k hk, by rw [e _ (by omega) (by omega)]; exact q8⟩
/-- the decoder's share with its data told -/
def DCX (θ : TH) (V : VT) (sw : Bool) (c s L B : Nat) (bk : Nat → BD) : Prop := c ≤ 2 ∧ V (tb θ + 66) 3 = nI c ∧ V (tb θ + 126) 41 = nI c ∧ (0 < c → 8 ≤ s ∧ s ≤ 64 ∧ s % 2 = 0 ∧ 8 ≤ L ∧ L ≤ 64 ∧ L % 2 = 0) ∧ V (tb θ + 66) 4 = nI s ∧ V (tb θ + 126) 42 = nI s ∧ V (tb θ + 66) 5 = nI L ∧ V (tb θ + 126) 43 = nI L ∧ V (tb θ + 66) 15 = V (tb θ + 126) 68 ∧ B ≤ 4 ∧ V (tb θ + 66) 2 = nI B ∧ V (tb θ + 126) 44 = nI B ∧ (∀ k, k < B → BKP (bk k) ∧ BKC θ V k (bk k) ∧ BKM θ V k (bk k)) ∧ BLK θ V c ∧ ((V (tb θ + 66) 6 = 0 ∧ V (tb θ + 126) 53 = -1) ∨ (V (tb θ + 66) 6 = 1 ∧ 0 < c ∧ ∃ (la : Nat) (cd : CD) (vd : VD), (la = 0 ∨ la = 48) ∧ V (tb θ + 126) 53 = nI la ∧ CPP cd B ∧ CPC θ V (cpA sw) cd ∧ CPM θ V la cd ∧ VPP vd B c bk ∧ VPC θ V (vpA sw) c vd ∧ VPM θ V la vd))
theorem DCR_of {c s L B : Nat} {bk : Nat → BD} (h : DCX θ V sw c s L B bk) : DCR θ V sw := ⟨c, s, L, B, bk, h⟩
theorem DCX.keep {c s L B : Nat} {bk : Nat → BD} (h : DCX θ V sw c s L B bk) (h66 : ∀ j, V2 (tb θ + 66) j = V (tb θ + 66) j) (h126 : ∀ j, 41 ≤ j → V2 (tb θ + 126) j = V (tb θ + 126) j) (hB : ∀ k, k < B → V2 (tb θ + (106 + 5 * k)) = V (tb θ + (106 + 5 * k)) ∧ V2 (tb θ + (108 + 5 * k)) = V (tb θ + (108 + 5 * k)) ∧ V2 (tb θ + (110 + 5 * k)) = V (tb θ + (110 + 5 * k))) (hM : ∀ k b, k < B → BKP b → BKM θ V k b → BKM θ V2 k b) (hcv : ∀ a, 101 ≤ a → a ≤ 105 → V2 (tb θ + a) = V (tb θ + a)) (hmv : ∀ a, 158 ≤ a → a ≤ 160 → V2 (tb θ + a) = V (tb θ + a)) (hpl : ∀ a, cpA sw ≤ a → a ≤ cpA sw + 6 → V2 (tb θ + a) = V (tb θ + a)) (hv0 : ∀ j, j ≤ 8 → V2 (tb θ + vpA sw) j = V (tb θ + vpA sw) j) (hv1 : V2 (tb θ + (vpA sw + 1)) = V (tb θ + (vpA sw + 1))) (h157 : ∀ la, (la = 0 ∨ la = 48) → V (tb θ + 126) 53 = nI la → ∀ j, la ≤ j → j < la + 48 → V2 (tb θ + 157) j = V (tb θ + 157) j) : DCX θ V2 sw c s L B bk := by
  obtain ⟨g1, g2, g3, g4, g5, g6, g7, g8, g9, g10, g11, g12, g13, g14, g15⟩ := h
  refine ⟨g1, by rw [h66]; exact g2, by rw [h126 _ (by decide)]; exact g3, g4, by rw [h66]; exact g5, by rw [h126 _ (by decide)]; exact g6, by rw [h66]; exact g7, by rw [h126 _ (by decide)]; exact g8, by rw [h66, h126 _ (by decide)]; exact g9, g10, by rw [h66]; exact g11, by rw [h126 _ (by decide)]; exact g12, fun b hb => ?_, ?_, ?_⟩
  · obtain ⟨q1, q2, q3⟩ := g13 b hb
    obtain ⟨e1, e2, e3⟩ := hB b hb
    exact ⟨q1, q2.eq e1 e2 e3, hM b _ hb q1 q3⟩
  · rcases g14 with ⟨a, b⟩ | ⟨a, sz, b1, b2, b3, b4, b5, b6⟩
    · exact Or.inl ⟨by rw [h126 _ (by decide)]; exact a, by rw [h66]; exact b⟩
    · refine Or.inr ⟨by rw [h126 _ (by decide)]; exact a, sz, b1, b2, by rw [h66]; exact b3, by rw [h126 _ (by decide)]; exact b4, ?_, fun ch x hc hx => ?_⟩
      · unfold mrk at b5 ⊢
        rw [h66, h126 _ (by decide), h126 _ (by decide), h126 _ (by decide), hmv 158 (by decide) (by decide)]; exact b5
      · rw [hcv (101 + ch) (by omega) (by omega), hcv (104 + ch) (by omega) (by omega), hmv 159 (by decide) (by decide), hmv 160 (by decide) (by decide)]
        exact b6 ch x hc hx
  · rcases g15 with ⟨a, b⟩ | ⟨a, b, la, cd, vd, x1, x2, x3, x4, x5, x6, x7, x8⟩
    · exact Or.inl ⟨by rw [h66]; exact a, by rw [h126 _ (by decide)]; exact b⟩
    · exact Or.inr ⟨by rw [h66]; exact a, b, la, cd, vd, x1, by rw [h126 _ (by decide)]; exact x2, x3, x4.eq hpl, x5.loc x3 (h157 la x1 x2), x6, x7.eq hv0 hv1, x8.loc x6 (h157 la x1 x2)⟩
/-- the writer's and the reader's shares do not see what take changes -/
theorem IW_keep {U2 : UT} {sw2 : Bool} {n r : Nat} {w : Nat → Nat} {h : Nat} {hb : Nat → Nat} (hWV : WV θ V n r w) (hWM : WM θ V n r w) (hH : HD θ V h hb) (hO : ∀ k, k < 4 → OI θ V k) (hR : RDR θ V r w) (hLT : LTR θ V) (hHN : HND θ V) (e1 : ∀ q, q < tb θ + 66 → q ≠ tb θ + 25 → V2 q = V q) (e2 : ∀ q, tb θ + 127 ≤ q → q < tb θ + 150 → V2 q = V q) (e3 : ∀ j, j < 34 → V2 (tb θ + 126) j = V (tb θ + 126) j) (e36 : V2 (tb θ + 126) 36 = V (tb θ + 126) 36) (e37 : V2 (tb θ + 126) 37 = V (tb θ + 126) 37) (e38 : V2 (tb θ + 126) 38 = V (tb θ + 126) 38) (e4 : ∀ j, 2 ≤ j → j ≤ 4 → V2 (tb θ + 25) j = V (tb θ + 25) j) (ef : V2 (tb θ + 25) 1 = 0) (ef2 : V2 (tb θ + 126) 34 = 0) (hU2 : US θ sw2 U2) (hD2 : D V2 sw2) : IW θ (RR θ D) V2 U2 := by
  refine ⟨sw2, n, r, w, h, hb, hU2, ?_, ?_, ?_, OI.all hO (fun q a b => e1 q (by omega) (by omega)) (fun q a b => e2 q (by omega) (by omega)), ?_, ?_, ?_, hD2⟩
  · unfold WV at hWV ⊢
    rw [e1 (tb θ + 1) (by omega) (by omega), e1 (tb θ + 2) (by omega) (by omega)]; exact hWV
  · unfold WM at hWM ⊢
    rw [e3 1 (by decide), e3 2 (by decide), e2 (tb θ + 127) (by omega) (by omega)]; exact hWM
  · unfold HD at hH ⊢
    rw [e1 (tb θ + 0) (by omega) (by omega), e3 4 (by decide), e1 (tb θ + 3) (by omega) (by omega), e2 (tb θ + 128) (by omega) (by omega)]; exact hH
  · obtain ⟨l, g, h1, h2, ⟨se, h3, h3'⟩, h4, h5, h6, h7, h8, h9, h10, h11⟩ := hR
    have hgood := (PLk.good st0_good h1).2
    have hpb := PLk.pb st0_good st0_pb h1 h2
    refine ⟨l, g, h1, h2, ⟨se, h3.eq (fun q a b => e1 q (by omega) (by omega)) (by rw [e1 _ (by omega) (by omega)]) (by rw [e1 _ (by omega) (by omega)]) hgood.2.2, h3'⟩, by rw [e1 _ (by omega) (by omega)]; exact h4, h5, ?_, fun j hj => by rw [e2 _ (by omega) (by omega)]; exact h7 j hj, ?_, ?_, ?_, h11.eqw hpb.2 (fun _ _ => rfl) (fun q a b => e2 q (by omega) (by omega))⟩
    · rw [e3 13 (by decide)]; exact h6
    · rw [e3 14 (by decide)]; exact h8
    · rw [e3 21 (by decide)]; exact h9
    · rw [e3 22 (by decide)]; exact h10
  · unfold LTR at hLT ⊢
    rw [e1 (tb θ + 30) (by omega) (by omega), e3 30 (by decide), e3 31 (by decide), e3 32 (by decide), e3 33 (by decide)]; exact hLT
  · obtain ⟨L, ob, a1, a2, a3, a4, a5, a6, a7, a8, a9⟩ := hHN
    refine ⟨L, ob, a1, by rw [ef, ef2], by rw [ef]; exact Or.inl rfl, by rw [e4 2 (by decide) (by decide)]; exact a4, by rw [e36]; exact a5, by rw [e4 3 (by decide) (by decide), e37]; exact a6, by rw [e4 4 (by decide) (by decide), e38]; exact a7, by rw [e4 4 (by decide) (by decide)]; exact a8, fun i hi => by rw [e1 (tb θ + 26) (by omega) (by omega), e2 (tb θ + 149) (by omega) (by omega)]; exact a9 i hi⟩
-- the questions
theorem ok_samples (hθ : OKt θ) : OP_samples θ (IW θ (RR θ (DCR θ))) := by
  intro V U Kc hI hk
  have hI' := hI
  obtain ⟨sw, n, r, w, h, hb, hU, hWV, hWM, hH, hO, hR, hLT, hHN, c, s, L, B, bk, g⟩ := hI
  obtain ⟨g1, g2, g3, g4, g5, g6, g7, g8, g9, g10⟩ := g
  unfold wp_S_samples
  simp only [UC hU, IC hθ, dcU hθ hU, true_and]
  refine ⟨by omega, hk _ _ _ (fun Kf hf => ?_)⟩
  unfold wp_M_samples
  simp only [IM hθ, true_and]
  rw [← g9]
  exact hf V U hI'
theorem ok_block (hθ : OKt θ) : OP_block θ (IW θ (RR θ (DCR θ))) := by
  intro V U Kc hI hk
  have hI' := hI
  obtain ⟨sw, n, r, w, h, hb, hU, hWV, hWM, hH, hO, hR, hLT, hHN, c, s, L, B, bk, g⟩ := hI
  obtain ⟨g1, g2, g3, g4, g5, g6, g7, g8, g9, g10, g11, g12, g13, g14, g15⟩ := g
  unfold wp_S_block
  simp only [UC hU, IC hθ, dcU hθ hU, true_and]
  refine ⟨by omega, fun q => hk _ _ _ (fun Kf hf => ?_), fun q => hk _ _ _ (fun Kf hf => ?_)⟩
  · rcases g14 with ⟨a, b⟩ | ⟨a, sz, b1, b2, b3, b4, b5, b6⟩
    · exact absurd b q
    · rw [b5] at hf
      unfold wp_M_block wb_M_block_21 wb_M_block_47 wb_M_block_65
      simp only [UM hU, IM hθ, true_and, exists_eq_left]
      rw [a, show ((0 : Int32).toNatClampNeg) = 0 from rfl, show ((1 : Int32).toNatClampNeg) = 1 from rfl]
      have i0 : vp_in (0 : Int32) 2 := vp_in_nI (n := 0) (by decide) (by decide)
      have i1 : vp_in (1 : Int32) 2 := vp_in_nI (n := 1) (by decide) (by decide)
      have fin := hf V U hI'
      unfold mrk at fin
      refine ⟨fun _ => ⟨fun x1 y5 e5 => ⟨by omega, i0, fun x2 y11 e11 => ⟨by omega, i1, fun x3 y18 e18 => ⟨fun x4 => ?_, fun x4 => ?_⟩, fun x3 y18 e18 => ⟨fun x4 => ?_, fun x4 => ?_⟩⟩, fun x2 y11 e11 => ⟨by omega, i1, fun x3 y18 e18 => ⟨fun x4 => ?_, fun x4 => ?_⟩, fun x3 y18 e18 => ⟨fun x4 => ?_, fun x4 => ?_⟩⟩⟩, fun x1 y5 e5 => ⟨by omega, i0, fun x2 y11 e11 => ⟨by omega, i1, fun x3 y18 e18 => ⟨fun x4 => ?_, fun x4 => ?_⟩, fun x3 y18 e18 => ⟨fun x4 => ?_, fun x4 => ?_⟩⟩, fun x2 y11 e11 => ⟨by omega, i1, fun x3 y18 e18 => ⟨fun x4 => ?_, fun x4 => ?_⟩, fun x3 y18 e18 => ⟨fun x4 => ?_, fun x4 => ?_⟩⟩⟩⟩, fun z => absurd z (by decide)⟩ <;> (rw [e18, e11, e5]; simp only [x1, x2, x3, x4, if_true, if_false] at fin; exact fin)
  · unfold wp_M_block
    simp only [IM hθ, true_and]
    rcases g14 with ⟨a, b⟩ | ⟨a, sz, b1, b2, b3, b4, b5, b6⟩
    · rw [a]; exact ⟨fun z => absurd rfl z, fun _ => hf V U hI'⟩
    · exact absurd (b3.symm.trans q) (nI_ne0 b1 (by omega))
theorem ok_entry (hθ : OKt θ) : OP_entry θ (IW θ (RR θ (DCR θ))) := by
  intro x y V U Kc hI hk
  have hI' := hI
  obtain ⟨sw, n, r, w, h, hb, hU, hWV, hWM, hH, hO, hR, hLT, hHN, c, s, L, B, bk, g⟩ := hI
  obtain ⟨g1, g2, g3, g4, g5, g6, g7, g8, g9, g10, g11, g12, g13, g14, g15⟩ := g
  unfold wp_S_entry wp_D_codewordOf
  simp only [UC hU, IC hθ, dcU hθ hU, true_and, exists_eq_left]
  have none : (∀ Kf : Int32 → VT → UT → Prop, (∀ V2 U2, IW θ (RR θ (DCR θ)) V2 U2 → Kf (-1) V2 U2) → wp_M_entry θ (tb θ + 126) x y V U Kf) → Kc (-1) V U := hk (-1) V U
  rw [g11]
  refine ⟨by omega, fun q1 => none (fun Kf hf => ?_), fun q1 => ⟨fun q2 => none (fun Kf hf => ?_), fun q2 => ⟨fun q3 => none (fun Kf hf => ?_), fun q3 => ?_⟩⟩⟩
  · unfold wp_M_entry; exact br_t q1 (hf V U hI')
  · unfold wp_M_entry
    simp only [IM hθ, true_and]
    rw [g12]
    exact br_f q1 (br_t q2 (hf V U hI'))
  · unfold wp_M_entry
    simp only [IM hθ, true_and]
    rw [g12]
    exact br_f q1 (br_f q2 (br_t q3 (hf V U hI')))
  · obtain ⟨k, hk0, rfl⟩ := nI_of q1
    have hk1 : k < B := Nat.lt_of_not_le (fun z => q2 (nI_le z hk0))
    obtain ⟨e, he1, rfl⟩ := nI_of q3
    have hu := bkU (k := k) hθ hU (by omega)
    obtain ⟨hbp, hbc, hbm⟩ := g13 k hk1
    obtain ⟨b1, b2, b3, b4, b5⟩ := hbp
    rw [nI_clamp (show k < 2 ^ 31 by omega), hu.2.2.2.2.2.2.2.2.2.1]
    simp only [hu, true_and, exists_eq_left]
    rw [hbc.1, nI_clamp he1]
    refine ⟨by omega, vp_in_nI (by omega) (by decide), by omega, pk_lt e (bk k).E (fun q4 => ⟨by omega, vp_in_nI (by omega) (by decide), hk _ _ _ (fun Kf hf => ?_)⟩) (fun q4 => none (fun Kf hf => ?_))⟩
    · unfold wp_M_entry
      simp only [UM hU, IM hθ, true_and, exists_eq_left]
      obtain ⟨m1, m2, m3, m4, m5⟩ := hbm
      rw [g12, nI_clamp (show k < 2 ^ 31 by omega), m1, show (8 : Int32) * nI k = nI (8 * k) from pk_mul 8 k, nI_add, nI_clamp (show 8 * k + e < 2 ^ 31 by omega), (m3 e q4).1, (m3 e q4).2]
      refine br_f q1 (br_f q2 (br_f q3 ⟨by omega, vp_in_nI (by omega) (by decide), br_t (nI_lt q4 (by omega)) ⟨by omega, vp_in_nI (by omega) (by decide), fun y14 e14 => ?_⟩⟩))
      subst e14
      obtain ⟨l1, l2⟩ := b5.1 e q4
      have hcl := hbc.2.2.1 e q4
      rw [hcl] at hf
      refine ⟨fun z => ⟨by omega, vp_in_nI (by omega) (by decide), ?_⟩, fun z => ?_⟩
      · have hz : ¬ (bk k).ln e = 0 := fun w => z (by rw [w]; rfl)
        rw [if_neg hz] at hf
        have hp8 : 2 ^ (bk k).ln e ≤ 2 ^ 8 := p2le l1
        rw [show (1 : Int32) = nI 1 from rfl, pk_shlN _ ((bk k).ln e) (sh31 (by omega)) (by omega), Nat.one_mul, nI_add]
        exact hf V U hI'
      · have hz : (bk k).ln e = 0 := (nI_eq (b := 0) (by omega) (by decide)).1 z
        rw [if_pos hz] at hf
        exact hf V U hI'
    · unfold wp_M_entry
      simp only [UM hU, IM hθ, true_and, exists_eq_left]
      rw [g12, nI_clamp (show k < 2 ^ 31 by omega), hbm.1]
      exact br_f q1 (br_f q2 (br_f q3 ⟨by omega, vp_in_nI (by omega) (by decide), br_f (nI_nlt q4 he1) (hf V U hI')⟩))
end KEEP
