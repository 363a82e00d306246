section MSEGS
variable {θ : TH} {sw : Bool} {U : UT} {V V1 V2 : VT} {S : ST} {k se n r fr : Nat} {w : Nat → Nat} {pg : PG}
theorem run_congr {fr fr2 : Nat} : ∀ i, (∀ j, j < i → (fr ≤ j ↔ fr2 ≤ j)) → runS pg k fr i S = runS pg k fr2 i S
  | 0, _ => rfl
  | i + 1, h => by
    have e := run_congr i (fun j hj => h j (by omega))
    show (if fr ≤ i then _ else runS pg k fr i S) = (if fr2 ≤ i then _ else runS pg k fr2 i S)
    rw [e]
    by_cases q : fr ≤ i
    · rw [if_pos q, if_pos ((h i (by omega)).mp q)]
    · rw [if_neg q, if_neg (fun q2 => q ((h i (by omega)).mpr q2))]
theorem fe_first {la : Nat → Nat} : ∀ (d i F : Nat), i ≤ F → F ≤ i + d → (∀ j, i ≤ j → j < F → 15 ≤ la j) → (F < i + d → la F < 15) → feS la d i = if F < i + d then F + 1 else i + d
  | 0, i, F, h1, h2, _, _ => by
    show i = _
    rw [if_neg (by omega)]; rfl
  | d + 1, i, F, h1, h2, h3, h4 => by
    unfold feS
    by_cases q : la i < 15
    · rw [if_pos q]
      have : F = i := by
        by_cases e : F = i
        · exact e
        · exact absurd (h3 i (Nat.le_refl _) (by omega)) (by omega)
      subst this
      rw [if_pos (by omega)]
    · rw [if_neg q]
      have hne : F ≠ i := by
        rintro rfl
        exact q (h4 (by omega))
      rw [fe_first d (i + 1) F (by omega) (by omega) (fun j a b => h3 j (by omega) b) (fun a => h4 (by omega))]
      by_cases q2 : F < i + 1 + d
      · rw [if_pos q2, if_pos (by omega)]
      · rw [if_neg q2, if_neg (by omega)]; omega
theorem seg_sto {pl la tm : Nat} {cl : Bool} (h : la ≤ 15) : stoE (segS k pl la tm cl S).ev + 15 * ((segS k pl la tm cl S).un k).length ≤ stoE S.ev + 15 * (S.un k).length + la := by
  unfold segS
  by_cases q : la < 15
  · rw [if_pos q]
    show stoE (S.ev ++ [_]) + 15 * (fu S.un k [] k).length ≤ _
    rw [stoE_app, fu_a]
    show stoE S.ev + (15 * (S.un k).length + la) + 15 * 0 ≤ _
    omega
  · rw [if_neg q]
    show stoE S.ev + 15 * (fu S.un k (S.un k ++ [pl]) k).length ≤ _
    rw [fu_a, List.length_append, List.length_singleton]; omega
theorem run_sto : ∀ i, (∀ j, j < i → pg.la j ≤ 15) → stoE (runS pg k fr i S).ev + 15 * ((runS pg k fr i S).un k).length + (pg.pl + 14 + pg.n) ≤ stoE S.ev + 15 * (S.un k).length + pgA pg i
  | 0, _ => Nat.le_refl _
  | i + 1, h => by
    have e := run_sto i (fun j hj => h j (by omega))
    have ha : pgA pg (i + 1) = pgA pg i + pg.la i := rfl
    show stoE ((if fr ≤ i then _ else runS pg k fr i S) : ST).ev + 15 * (((if fr ≤ i then _ else runS pg k fr i S) : ST).un k).length + _ ≤ _
    by_cases q : fr ≤ i
    · simp only [q, if_true]
      have := seg_sto (k := k) (pl := pgA pg i) (la := pg.la i) (tm := if lsS pg.la pg.n i then pg.ti else 65535) (cl := lsS pg.la pg.n i && decide (pg.fl / 4 % 2 = 1)) (S := runS pg k fr i S) (h i (by omega))
      omega
    · simp only [q, if_false]
      omega
theorem m_run {K : VT → UT → Prop} {xl : Int32} (hθ : OKt θ) (hU : US θ sw U) (hW : WM θ V n r w) (hk3 : k < 3) (hP : PGok w r pg) (hM : MRd θ V w S) (hl : S.ev.length ≤ 1) (hs0 : stoE S.ev = 0) (hkn : S.kn k = some pg.se) (hu : 16 * (S.un k).length ≤ pg.pl)
    (hxl : ∀ i, i < pg.n → pg.la i < 15 → (nI i = xl ↔ lsS pg.la pg.n i = true)) (hfr : fr ≤ 100)
    (hk : ∀ V2, FRm θ V V2 → MRd θ V2 w (lastS pg k (runS pg k fr pg.n S)) → K V2 U) : ∃ f, wl_M_segments_185 θ (tb θ + 126) (nI pg.pl) (nI k) (nI pg.fl) (nI pg.n) xl (nI fr) (nI pg.ti) K f (nI (pgA pg 0)) 0 V U := by
  obtain ⟨P1, P2, P3, P4, P5, P6, P7, P8, P9, P10, P11⟩ := hP
  have hn := hW.2.1
  have hrn := hW.2.2.2.1
  have hin : vp_in (nI k) 3 := vp_in_nI hk3 (by decide)
  have hc : (nI k).toNatClampNeg = k := nI_clamp (by omega)
  obtain ⟨b1, b2, b4⟩ := fl_bits P7
  refine loop2 (wl := wl_M_segments_185 θ (tb θ + 126) (nI pg.pl) (nI k) (nI pg.fl) (nI pg.n) xl (nI fr) (nI pg.ti) K) pg.n (fun i b W => b = nI (pgA pg i) ∧ FRm θ V W ∧ MRd θ W w (runS pg k fr i S)) ⟨rfl, FRm.refl, hM⟩ ?_ ?_
  · rintro f i b W hi ⟨rfl, f1, h1⟩ hgo
    have hW1 := f1.wm hW
    have hA := pgA_0 pg i
    have hA2 := pgA_mono pg (show i + 1 ≤ pg.n by omega)
    have hA3 : pgA pg (i + 1) = pgA pg i + pg.la i := rfl
    obtain ⟨g1, g2, g3, g4⟩ := run_kn (pg := pg) (k := k) (fr := fr) (S := S) i
    have g4 := g4 (fun j hj => (P2 j (by omega)).2)
    have g5 := run_sto (pg := pg) (k := k) (fr := fr) (S := S) i (fun j hj => (P2 j (by omega)).2)
    show bl_M_segments_185 _ _ _ _ _ _ _ _ _ _ _ _ _ _ _
    unfold bl_M_segments_185 wb_M_segments_245 wb_M_segments_262 wb_M_segments_263 wb_M_segments_266
    simp only [UM hU, IM hθ, true_and, exists_eq_left]
    rw [show nI pg.pl + (14 : Int32) = nI (pg.pl + 14) from nI_add _ 14, nI_add (pg.pl + 14) i, nI_clamp (show pg.pl + 14 + i < 2 ^ 31 by omega), (hW1.2.2.2.2 (pg.pl + 14 + i) (by omega)).1, (P2 i hi).1]
    refine br_f (nI_ge hi (by omega)) ⟨by omega, vp_in_nI (by omega) (by decide), fun y hy => ?_⟩
    rw [hy]
    have hla := (P2 i hi).2
    have fin : ∀ W2, FRm θ W W2 → MRd θ W2 w (runS pg k fr (i + 1) S) → ∀ y_39 : Int32, y_39 = (nI (pgA pg i) + nI (pg.la i)) → ∀ y_40 : Int32, y_40 = nI i + (1 : Int32) → wl_M_segments_185 θ (tb θ + 126) (nI pg.pl) (nI k) (nI pg.fl) (nI pg.n) xl (nI fr) (nI pg.ti) K f y_39 y_40 W2 U := by
      intro W2 f2 h2 y hy z hz
      rw [hy, hz, nI_1, nI_add]
      exact hgo _ _ ⟨rfl, f1.trans f2, h2⟩
    refine pk_lt i fr (fun q => fin W FRm.refl ?_) (fun q => ?_)
    · have e : runS pg k fr (i + 1) S = runS pg k fr i S := by
        show (if fr ≤ i then _ else runS pg k fr i S) = _; rw [if_neg (by omega)]
      rw [e]; exact h1
    · have e : runS pg k fr (i + 1) S = segS k (pgA pg i) (pg.la i) (if lsS pg.la pg.n i then pg.ti else 65535) (lsS pg.la pg.n i && decide (pg.fl / 4 % 2 = 1)) (runS pg k fr i S) := by
        show (if fr ≤ i then _ else runS pg k fr i S) = _; rw [if_pos q]
      have hun : ((runS pg k fr i S).un k).length ≤ 62 := by omega
      refine m_carry hθ hU hW1 hk3 (h1.1 k hk3) hun hla (by omega) (fun W2 car => ?_)
      refine pk_le 15 (pg.la i) (fun q15 => ?_) (fun q15 => ?_)
      · have e15 : pg.la i = 15 := by omega
        rw [e15] at car e
        have h2 := h1.full (tm := if lsS pg.la pg.n i then pg.ti else 65535) (cl := lsS pg.la pg.n i && decide (pg.fl / 4 % 2 = 1)) hk3 hun car
        exact fin W2 h2.1 (by rw [e]; exact h2.2)
      · have hgoF : ∀ (z x : Int32), z = nI (if lsS pg.la pg.n i then pg.ti else 65535) → x = (if (lsS pg.la pg.n i && decide (pg.fl / 4 % 2 = 1)) then 1 else 0) → wp_M_finish θ (tb θ + 126) (nI k) z x W2 U (fun V_69 U_70 => ∀ y_65 : Int32, y_65 = (nI (pgA pg i) + nI (pg.la i)) → ∀ y_66 : Int32, y_66 = nI i + (1 : Int32) → wl_M_segments_185 θ (tb θ + 126) (nI pg.pl) (nI k) (nI pg.fl) (nI pg.n) xl (nI fr) (nI pg.ti) K f y_65 y_66 V_69 U_70) := by
          intro z x hz hx
          rw [hz]
          exact m_finish (pl := pgA pg i) (la := pg.la i) (cl := lsS pg.la pg.n i && decide (pg.fl / 4 % 2 = 1)) (se := pg.se) hθ hU hk3 h1 (by omega) (by rw [g1]; exact hkn) hun q15 hx (by omega) car (fun W4 f4 h4 => fin W4 f4 (by rw [e]; exact h4))
        have hx := hxl i hi q15
        refine ⟨fun q2 => ⟨fun _ => hgoF _ _ ?_ ?_, fun q3 => absurd q3 q2⟩, fun q2 => ⟨fun q3 => absurd q2 q3, fun _ => ⟨fun q4 => hgoF _ _ ?_ ?_, fun q4 => hgoF _ _ ?_ ?_⟩⟩⟩
        · have : ¬ lsS pg.la pg.n i = true := fun h => q2 (hx.mpr h)
          rw [if_neg this]; rfl
        · have : lsS pg.la pg.n i = false := by
            cases h : lsS pg.la pg.n i
            · rfl
            · exact absurd (hx.mpr h) q2
          rw [this]; rfl
        · rw [if_pos (hx.mp q2)]
        · rw [hx.mp q2, decide_eq_false (b4.mp q4)]; rfl
        · rw [if_pos (hx.mp q2)]
        · have : pg.fl / 4 % 2 = 1 := by
            by_cases h : pg.fl / 4 % 2 = 1
            · exact h
            · exact absurd (b4.mpr h) q4
          rw [hx.mp q2, decide_eq_true this]; rfl
  · rintro f b W ⟨rfl, f1, h1⟩
    obtain ⟨g1, g2, g3, g4⟩ := run_kn (pg := pg) (k := k) (fr := fr) (S := S) pg.n
    show bl_M_segments_185 _ _ _ _ _ _ _ _ _ _ _ _ _ _ _
    unfold bl_M_segments_185
    simp only [IM hθ, true_and]
    refine br_t (nI_le (Nat.le_refl _) (by omega)) ⟨fun q => ?_, fun q => ?_⟩
    · refine hk W f1 ?_
      unfold lastS; rw [if_neg (b4.mp q)]; exact h1
    · have q4 : pg.fl / 4 % 2 = 1 := by
        by_cases h : pg.fl / 4 % 2 = 1
        · exact h
        · exact absurd (b4.mpr h) q
      refine m_drop hθ hU hk3 h1 (fun W6 f6 h6 => ?_)
      simp only [UM hU, IM hθ, exists_eq_left, hc]
      have hct : W6 (tb θ + 139) k = nI ((runS pg k fr pg.n S).ct k) := by
        have := ((h6.1 k hk3).2.1 pg.se (by rw [drop_kn.1, g1]; exact hkn)).2.2.1
        rw [this, drop_kn.2.2.1]
      rw [hct]
      refine ⟨by omega, hin, m_event0 (kd := 4) hθ hU h6 (by rw [drop_kn.2.2.2]; omega) (by decide) (fun W7 f7 h7 => ?_)⟩
      simp only [UM hU, IM hθ, exists_eq_left, hc]
      refine ⟨by omega, hin, fun W8 e8 => ?_⟩
      have h8 := h7.off hk3
      rw [← e8] at h8
      refine hk W8 (f1.trans (f6.trans (f7.trans h8.1))) ?_
      unfold lastS; rw [if_pos q4]; exact h8.2
/-- the segments of a page, in the reference -/
theorem m_segments {K : VT → UT → Prop} (hθ : OKt θ) (hU : US θ sw U) (hW : WM θ V n r w) (hk3 : k < 3) (hP : PGok w r pg) (hM : MRd θ V w S) (hl : S.ev.length ≤ 1) (hs0 : stoE S.ev = 0) (hkn : S.kn k = some pg.se) (hu : 16 * (S.un k).length ≤ pg.pl)
    (hk : ∀ V2, FRm θ V V2 → MRd θ V2 w (lastS pg k (runS pg k (cutS pg k S).2 pg.n (cutS pg k S).1)) → K V2 U) : wp_M_segments θ (tb θ + 126) (nI pg.pl) (nI k) V U K := by
  have hP' := hP
  obtain ⟨P1, P2, P3, P4, P5, P6, P7, P8, P9, P10, P11⟩ := hP
  have hA := pgA_0 pg pg.n
  have hn := hW.2.1
  have hrn := hW.2.2.2.1
  have hin : vp_in (nI k) 3 := vp_in_nI hk3 (by decide)
  have hc : (nI k).toNatClampNeg = k := nI_clamp (by omega)
  obtain ⟨b1, b2, b4⟩ := fl_bits P7
  obtain ⟨a1, a2, a3, a4, a5, a6⟩ := hM.1 k hk3
  -- the rest
  have fin : ∀ (W : VT) (S2 : ST) (fr fr2 : Nat) (xl : Int32), cutS pg k S = (S2, fr2) → (∀ j, j < pg.n → (fr ≤ j ↔ fr2 ≤ j)) → FRm θ V W → MRd θ W w S2 → S2.ev.length ≤ 1 → stoE S2.ev = 0 → S2.kn k = some pg.se → 16 * (S2.un k).length ≤ pg.pl → fr ≤ 100 → (∀ i, i < pg.n → pg.la i < 15 → (nI i = xl ↔ lsS pg.la pg.n i = true)) → wb_M_segments_148 θ (tb θ + 126) (nI pg.pl) (nI k) (nI pg.fl) (nI pg.n) xl (nI fr) K W U := by
    intro W S2 fr fr2 xl hcut hfr f1 h1 h2 h3 h4 h5 h6 hxl
    rw [hcut] at hk
    have hW1 := f1.wm hW
    unfold wb_M_segments_148
    simp only [UM hU, IM hθ, true_and, exists_eq_left]
    rw [show nI pg.pl + (7 : Int32) = nI (pg.pl + 7) from nI_add _ 7, show nI pg.pl + (8 : Int32) = nI (pg.pl + 8) from nI_add _ 8, show nI pg.pl + (14 : Int32) = nI (pg.pl + 14) from nI_add _ 14, nI_clamp (show pg.pl + 7 < 2 ^ 31 by omega), nI_clamp (show pg.pl + 8 < 2 ^ 31 by omega), (hW1.2.2.2.2 (pg.pl + 7) (by omega)).1, (hW1.2.2.2.2 (pg.pl + 8) (by omega)).1]
    refine ⟨by omega, vp_in_nI (by omega) (by decide), vp_in_nI (by omega) (by decide), fun y hy z hz => ?_⟩
    rw [show (256 : Int32) * nI (w (pg.pl + 8)) = nI (256 * w (pg.pl + 8)) from pk_mul 256 _, nI_add, ← P10] at hy
    rw [nI_add] at hz
    rw [hy, hz]
    refine m_run hθ hU hW1 hk3 hP' h1 h2 h3 h4 h5 hxl h6 (fun V2 f2 c2 => hk V2 (f1.trans f2) ?_)
    rw [run_congr pg.n hfr] at c2
    exact c2
  unfold wp_M_segments
  simp only [UM hU, IM hθ, true_and, exists_eq_left]
  rw [show nI pg.pl + (4 : Int32) = nI (pg.pl + 4) from nI_add _ 4, show nI pg.pl + (13 : Int32) = nI (pg.pl + 13) from nI_add _ 13, nI_clamp (show pg.pl + 4 < 2 ^ 31 by omega), nI_clamp (show pg.pl + 13 < 2 ^ 31 by omega), (hW.2.2.2.2 (pg.pl + 4) (by omega)).1, (hW.2.2.2.2 (pg.pl + 13) (by omega)).1, P3, P6]
  refine ⟨by omega, vp_in_nI (by omega) (by decide), fun y hy => ⟨vp_in_nI (by omega) (by decide), fun z hz v hv => ?_⟩⟩
  rw [hz, show nI pg.n - (1 : Int32) = nI pg.n + (-1) from Int32.sub_eq_add_neg _ _] at hv
  rw [hy, hz, hv]
  -- going down over the segments
  have key : ∀ m, m ≤ pg.n → ∀ (x5 : Int32) (F : Nat), m ≤ F → F ≤ pg.n → (∀ j, m ≤ j → j < F → 15 ≤ pg.la j) → (F < pg.n → pg.la F < 15) → ((x5 = -1 ∧ ∀ i, m ≤ i → i < pg.n → 15 ≤ pg.la i) ∨ ∃ L, m ≤ L ∧ L < pg.n ∧ x5 = nI L ∧ pg.la L < 15 ∧ lsS pg.la pg.n L = true) → wl_M_segments_33 θ (tb θ + 126) (nI pg.pl) (nI k) (nI pg.fl) (nI pg.n) K (m + 1) x5 (nI F) (nI m + (-1)) V U := by
    intro m
    induction m with
    | zero =>
      intro _ x5 F hF1 hF2 hF3 hF4 hx5
      have hxl : ∀ i, i < pg.n → pg.la i < 15 → (nI i = x5 ↔ lsS pg.la pg.n i = true) := by
        intro i hi hlo
        rcases hx5 with ⟨rfl, hall⟩ | ⟨L, hL1, hL2, rfl, hL3, hL4⟩
        · exact absurd (hall i (Nat.zero_le _) hi) (by omega)
        · rw [nI_eq (by omega) (by omega)]
          constructor
          · rintro rfl; exact hL4
          · intro h
            rw [lsS_iff] at h hL4
            by_cases e : i = L
            · exact e
            · by_cases e2 : i < L
              · exact absurd (h L hL2 e2) (by omega)
              · exact absurd (hL4 i hi (by omega)) (by omega)
      show bl_M_segments_33 _ _ _ _ _ _ _ _ _ _ _ _ _
      unfold bl_M_segments_33
      refine br_t (by decide) ?_
      simp only [UM hU, IM hθ, true_and, exists_eq_left, hc, a3]
      refine ⟨fun q => ⟨by omega, hin, ?_⟩, fun q => ?_⟩
      · have q1 : ¬ pg.fl % 2 = 0 := fun h => q (b1.mpr h)
        by_cases he : S.un k = []
        · rw [if_pos he]
          refine ⟨fun h => absurd rfl h, fun _ => ?_⟩
          refine pk_le pg.n 0 (fun hn0 => ?_) (fun hn0 => fun W eW y hy => ?_)
          · refine fin V S 0 0 x5 ?_ (fun j hj => absurd hj (by omega)) FRm.refl hM hl hs0 hkn hu (by omega) hxl
            unfold cutS; rw [if_neg q1, if_neg (by omega)]
          · rw [nI_1] at hy
            rw [hy]
            refine fin W (pcS S) (F + 1) (feS pg.la pg.n 0) x5 ?_ (fun j hj => ?_) ?_ ?_ hl hs0 hkn hu (by omega) hxl
            · unfold cutS; rw [if_neg q1, if_pos ⟨he, hn0⟩]
            · rw [fe_first pg.n 0 F (Nat.zero_le _) (by omega) (fun j a b => hF3 j a b) (fun h => hF4 (by omega))]
              by_cases h : F < 0 + pg.n
              · rw [if_pos h]
              · rw [if_neg h]; omega
            · refine ⟨fun q u v => by rw [eW, up2_ne u], fun j u v t => by rw [eW, up2_ab u]⟩
            · obtain ⟨c1, c2, c3, c4, c5⟩ := hM
              have bb : ∀ q, q ≠ tb θ + 126 → W q = V q := fun q hq => by rw [eW, up2_ne hq]
              refine ⟨fun j hj => (c1 j hj).of (fun q u v => by rw [bb _ (by omega)]) (fun i _ => by rw [bb _ (by omega)]) rfl rfl rfl rfl, ?_, ?_, ?_, ?_⟩
              · rw [eW, up2_aa, c2, nI_1]; rfl
              · rw [eW, up2_ab (by decide)]; exact c3
              · rw [eW, up2_ab (by decide)]; exact c4
              · exact c5.of (fun j hj => by rw [bb _ (by omega), bb _ (by omega), bb _ (by omega), bb _ (by omega), bb _ (by omega)]; exact ⟨rfl, rfl, rfl, rfl, rfl⟩) (fun i hi => by rw [bb _ (by omega)])
        · rw [if_neg he]
          refine ⟨fun _ => ?_, fun h => absurd h (by decide)⟩
          refine fin V S 0 0 x5 ?_ (fun j hj => Iff.rfl) FRm.refl hM hl hs0 hkn hu (by omega) hxl
          unfold cutS; rw [if_neg q1, if_neg (fun h => he h.1)]
      · have q1 : pg.fl % 2 = 0 := b1.mp q
        refine m_drop hθ hU hk3 hM (fun W f1 h1 => ?_)
        refine fin W (dropS k S) 0 0 x5 ?_ (fun j hj => Iff.rfl) f1 h1 ?_ ?_ ?_ ?_ (by omega) hxl
        · unfold cutS; rw [if_pos q1]
        · rw [drop_kn.2.2.2]; exact hl
        · rw [drop_kn.2.2.2]; exact hs0
        · rw [drop_kn.1]; exact hkn
        · rw [drop_un.2]; exact Nat.zero_le _
    | succ m ih =>
      intro hm x5 F hF1 hF2 hF3 hF4 hx5
      show bl_M_segments_33 _ _ _ _ _ _ _ _ _ _ _ _ _
      unfold bl_M_segments_33 wb_M_segments_60 wb_M_segments_74 wb_M_segments_91
      simp only [UM hU, IM hθ, true_and, exists_eq_left]
      rw [pk_m1, show nI pg.pl + (14 : Int32) = nI (pg.pl + 14) from nI_add _ 14, nI_add, nI_clamp (show pg.pl + 14 + m < 2 ^ 31 by omega), (hW.2.2.2.2 (pg.pl + 14 + m) (by omega)).1, (P2 m (by omega)).1]
      have hla := (P2 m (by omega)).2
      refine br_f (nI_pos (by omega)) ⟨by omega, vp_in_nI (by omega) (by decide), ?_⟩
      refine pk_le 15 (pg.la m) (fun q => br_t trivial (br_t trivial (fun z hz => ?_))) (fun q => br_f (by decide) (br_f (by decide) ?_))
      · rw [hz]
        refine ih (by omega) x5 F (by omega) hF2 (fun j u v => ?_) hF4 ?_
        · by_cases e : j = m
          · subst e; exact q
          · exact hF3 j (by omega) v
        · rcases hx5 with ⟨h1, h2⟩ | ⟨L, hL⟩
          · refine Or.inl ⟨h1, fun i u v => ?_⟩
            by_cases e : i = m
            · subst e; exact q
            · exact h2 i (by omega) v
          · exact Or.inr ⟨L, by omega, hL.2⟩
      · rcases hx5 with ⟨rfl, h2⟩ | ⟨L, hL1, hL2, rfl, hL3⟩
        · refine br_f (by decide) (fun z hz => ?_)
          rw [hz]
          refine ih (by omega) (nI m) m (Nat.le_refl _) (by omega) (fun j u v => absurd u (by omega)) (fun _ => q) (Or.inr ⟨m, Nat.le_refl _, by omega, rfl, q, ?_⟩)
          rw [lsS_iff]; exact fun j u v => h2 j (by omega) u
        · refine br_t (nI_le (a := 0) (Nat.zero_le _) (by omega)) (fun z hz => ?_)
          rw [hz]
          exact ih (by omega) (nI L) m (Nat.le_refl _) (by omega) (fun j u v => absurd u (by omega)) (fun _ => q) (Or.inr ⟨L, by omega, hL2, rfl, hL3⟩)
  exact ⟨_, key pg.n (Nat.le_refl _) (-1) pg.n (Nat.le_refl _) (Nat.le_refl _) (fun j u v => absurd v (by omega)) (fun h => absurd h (by omega)) (Or.inl ⟨rfl, fun i u v => absurd v (by omega)⟩)⟩
end MSEGS
