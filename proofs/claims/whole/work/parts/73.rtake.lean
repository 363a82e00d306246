def PGok (w : Nat → Nat) (r : Nat) (pg : PG) : Prop := pg.n ≤ 6 ∧ (∀ i, i < pg.n → w (pg.pl + 14 + i) = pg.la i ∧ pg.la i ≤ 15) ∧ w (pg.pl + 13) = pg.n ∧ w (pg.pl + 5) = pg.se ∧ pg.se < 256 ∧ w (pg.pl + 4) = pg.fl ∧ pg.fl < 8 ∧ w (pg.pl + 6) = pg.no ∧ pg.no < 256 ∧ pg.ti = w (pg.pl + 7) + 256 * w (pg.pl + 8) ∧ pgA pg pg.n ≤ r
theorem pgA_mono (pg : PG) : ∀ {a b : Nat}, a ≤ b → pgA pg a ≤ pgA pg b := by
  intro a b
  induction b with
  | zero => intro h; obtain rfl : a = 0 := by omega
            exact Nat.le_refl _
  | succ b ih =>
    intro h
    by_cases e : a = b + 1
    · subst e; exact Nat.le_refl _
    · have := ih (by omega); show _ ≤ pgA pg b + pg.la b; omega
theorem pgA_0 (pg : PG) (i : Nat) : pg.pl + 14 + pg.n ≤ pgA pg i := pgA_mono pg (Nat.zero_le i)
section RTAKE
variable {θ : TH} {sw : Bool} {U : UT} {V V1 V2 : VT} {S : ST} {k se n r fr : Nat} {w : Nat → Nat} {pg : PG}
theorem seg_kn {pl la tm : Nat} {cl : Bool} : (segS k pl la tm cl S).kn = S.kn ∧ (segS k pl la tm cl S).no = S.no ∧ (segS k pl la tm cl S).pc = S.pc ∧ (segS k pl la tm cl S).ev.length ≤ S.ev.length + 1 ∧ (∀ j, j ≠ k → (segS k pl la tm cl S).un j = S.un j) ∧ (la ≤ 15 → 16 * ((segS k pl la tm cl S).un k).length ≤ 16 * (S.un k).length + la + 1) := by
  unfold segS
  split
  · refine ⟨rfl, rfl, rfl, ?_, fun j hj => fu_n hj, fun _ => ?_⟩
    · show (S.ev ++ [_]).length ≤ _; rw [List.length_append]; exact Nat.le_refl _
    · show 16 * (fu S.un k [] k).length ≤ _; rw [fu_a]; exact Nat.zero_le _
  · refine ⟨rfl, rfl, rfl, Nat.le_succ _, fun j hj => fu_n hj, fun _ => ?_⟩
    show 16 * (fu S.un k (S.un k ++ [pl]) k).length ≤ _
    rw [fu_a, List.length_append, List.length_singleton]; omega
theorem run_kn : ∀ i, (runS pg k fr i S).kn = S.kn ∧ (runS pg k fr i S).ev.length ≤ S.ev.length + i ∧ (∀ j, j ≠ k → (runS pg k fr i S).un j = S.un j) ∧ ((∀ j, j < i → pg.la j ≤ 15) → 16 * ((runS pg k fr i S).un k).length + (pg.pl + 14 + pg.n) ≤ 16 * (S.un k).length + pgA pg i + i)
  | 0 => ⟨rfl, Nat.le_refl _, fun _ _ => rfl, fun _ => by show _ ≤ _ + (pg.pl + 14 + pg.n) + 0; exact Nat.le_refl _⟩
  | i + 1 => by
    obtain ⟨h1, h2, h3, h4⟩ := run_kn i
    have ha : pgA pg (i + 1) = pgA pg i + pg.la i := rfl
    show ((if fr ≤ i then _ else runS pg k fr i S) : ST).kn = _ ∧ ((if fr ≤ i then _ else runS pg k fr i S) : ST).ev.length ≤ _ ∧ (∀ j, j ≠ k → ((if fr ≤ i then _ else runS pg k fr i S) : ST).un j = _) ∧ (_ → 16 * (((if fr ≤ i then _ else runS pg k fr i S) : ST).un k).length + _ ≤ _)
    by_cases hf : fr ≤ i
    · simp only [hf, if_true]
      obtain ⟨g1, g2, g3, g4, g5, g6⟩ := seg_kn (k := k) (pl := pgA pg i) (la := pg.la i) (tm := if lsS pg.la pg.n i then pg.ti else 65535) (cl := lsS pg.la pg.n i && decide (pg.fl / 4 % 2 = 1)) (S := runS pg k fr i S)
      refine ⟨g1.trans h1, by omega, fun j hj => (g5 j hj).trans (h3 j hj), fun hb => ?_⟩
      have := g6 (hb i (by omega))
      have := h4 (fun j hj => hb j (by omega))
      omega
    · simp only [hf, if_false]
      exact ⟨h1, by omega, h3, fun hb => by have := h4 (fun j hj => hb j (by omega)); omega⟩
/-- the class carries the segments of a page -/
theorem s_run {K : VT → UT → Prop} {xl : Int32} (hθ : OKt θ) (hU : US θ sw U) (hW : WV θ V n r w) (hk3 : k < 3) (hP : PGok w r pg) (hC : CRd θ V S pg.se) (hl : S.ev.length ≤ 1) (hkn : S.kn k = some pg.se) (hu : 16 * (S.un k).length ≤ pg.pl)
    (hxl : ∀ i, i < pg.n → pg.la i < 15 → (nI i = xl ↔ lsS pg.la pg.n i = true)) (hfr : fr ≤ 100)
    (hk : ∀ V2, FRr θ V V2 → CRd θ V2 (runS pg k fr pg.n S) pg.se → K V2 U) : ∃ f, wl_R_takeSegments_85 θ (tb θ + 27) (tb θ + (33 + 3 * k)) (nI pg.pl) (nI pg.n) (nI fr) xl K f (nI (pgA pg 0)) 0 V U := by
  obtain ⟨⟨i1, i2, i3, i4, i5, i6, i7⟩, -⟩ := ib_k hθ hU hk3
  obtain ⟨P1, P2, P3, P4, P5, P6, P7, P8, P9, P10, P11⟩ := hP
  have hn := hW.2.1
  have hrn := hW.2.2.2.1
  refine loop2 (wl := wl_R_takeSegments_85 θ (tb θ + 27) (tb θ + (33 + 3 * k)) (nI pg.pl) (nI pg.n) (nI fr) xl K) pg.n (fun i b W => b = nI (pgA pg i) ∧ FRr θ V W ∧ CRd θ W (runS pg k fr i S) pg.se) ⟨rfl, FRr.refl, hC⟩ ?_ ?_
  · rintro f i b W hi ⟨rfl, f1, h1⟩ hgo
    have hW1 := f1.wv hW
    have hA := pgA_0 pg i
    have hA2 := pgA_mono pg (show i + 1 ≤ pg.n by omega)
    have hA3 : pgA pg (i + 1) = pgA pg i + pg.la i := rfl
    obtain ⟨g1, g2, g3, g4⟩ := run_kn (pg := pg) (k := k) (fr := fr) (S := S) i
    have g4 := g4 (fun j hj => (P2 j (by omega)).2)
    show bl_R_takeSegments_85 _ _ _ _ _ _ _ _ _ _ _ _ _
    unfold bl_R_takeSegments_85 wb_R_takeSegments_147 wb_R_takeSegments_150
    simp only [UC hU, IC hθ, true_and]
    rw [show nI pg.pl + (14 : Int32) = nI (pg.pl + 14) from nI_add _ 14, nI_add]
    refine br_f (nI_ge hi (by omega)) ⟨by omega, s_at hθ hU hW1 _ (by omega) ?_⟩
    rw [bw_in (by omega), (P2 i hi).1]
    have hla := (P2 i hi).2
    have fin : ∀ W2, FRr θ W W2 → CRd θ W2 (runS pg k fr (i + 1) S) pg.se → ∀ y_39 : Int32, y_39 = (nI (pgA pg i) + nI (pg.la i)) → ∀ y_40 : Int32, y_40 = nI i + (1 : Int32) → wl_R_takeSegments_85 θ (tb θ + 27) (tb θ + (33 + 3 * k)) (nI pg.pl) (nI pg.n) (nI fr) xl K f y_39 y_40 W2 U := by
      intro W2 f2 h2 y hy z hz
      rw [hy, hz, nI_1, nI_add]
      exact hgo _ _ ⟨rfl, f1.trans f2, h2⟩
    refine pk_lt i fr (fun q => fin W FRr.refl ?_) (fun q => ?_)
    · have e : runS pg k fr (i + 1) S = runS pg k fr i S := by
        show (if fr ≤ i then _ else runS pg k fr i S) = _; rw [if_neg (by omega)]
      rw [e]; exact h1
    · have e : runS pg k fr (i + 1) S = segS k (pgA pg i) (pg.la i) (if lsS pg.la pg.n i then pg.ti else 65535) (lsS pg.la pg.n i && decide (pg.fl / 4 % 2 = 1)) (runS pg k fr i S) := by
        show (if fr ≤ i then _ else runS pg k fr i S) = _; rw [if_pos q]
      simp only [i1, i2, i3, true_and]
      refine ⟨by omega, ?_⟩
      have ck := h1.1 k hk3
      obtain ⟨kp1, kp2, kp3⟩ := ck.2.1
      have hun : ((runS pg k fr i S).un k).length ≤ 62 := by omega
      unfold wp_K_extend
      simp only [i3, i4, i5, true_and, exists_eq_left, kp1]
      refine br_f (nI_ge (a := ((runS pg k fr i S).un k).length) (b := 64) (by omega) (by decide)) ⟨by omega, vp_in_nI (by omega) (by decide), fun W1 e1 W2 e2 W3 e3 => ?_⟩
      rw [nI_clamp (by omega)] at e1
      have c1 : W1 (tb θ + (33 + 3 * k) + 1) 1 + 1 = nI (((runS pg k fr i S).un k).length + 1) := by rw [e1, up2_ne (by omega), kp1, nI_1]
      have c2 : W2 (tb θ + (33 + 3 * k) + 1) 2 + nI (pg.la i) = nI (15 * ((runS pg k fr i S).un k).length + pg.la i) := by rw [e2, up2_ab (by decide), e1, up2_ne (by omega), kp2, nI_add]
      rw [c1] at e2
      rw [c2] at e3
      have hb : (∀ q, q ≠ tb θ + (33 + 3 * k) + 1 → q ≠ tb θ + (33 + 3 * k) + 2 → W3 q = W q) ∧ KP W3 (tb θ + (33 + 3 * k) + 1) ((runS pg k fr i S).un k ++ [pgA pg i]) (15 * ((runS pg k fr i S).un k).length + pg.la i) := by
        refine ⟨fun q x y => by rw [e3, up2_ne x, e2, up2_ne x, e1, up2_ne y], ?_, ?_, fun j hj => ?_⟩
        · rw [e3, up2_ab (by decide), e2, up2_aa, List.length_append]; rfl
        · rw [e3, up2_aa]
        · rw [List.length_append, List.length_singleton] at hj
          rw [e3, up2_ne (by omega), e2, up2_ne (by omega), e1]
          by_cases hj2 : j = ((runS pg k fr i S).un k).length
          · subst hj2; rw [getD_app_r, show tb θ + (33 + 3 * k) + 1 + 1 = tb θ + (33 + 3 * k) + 2 from rfl, up2_aa]
          · rw [getD_app_l (by omega), show tb θ + (33 + 3 * k) + 1 + 1 = tb θ + (33 + 3 * k) + 2 from rfl, up2_ab hj2]; exact kp3 j (by omega)
      refine pk_le 15 (pg.la i) (fun q15 => ?_) (fun q15 => ?_)
      · have e15 : pg.la i = 15 := by omega
        have h2 := h1.inb (S2 := runS pg k fr (i + 1) S) (V2 := W3) hk3 (fun q a b c => hb.1 q b c) (by
          rw [e]
          unfold segS
          rw [if_neg (by omega)]
          refine ⟨?_, ?_, ?_⟩
          · rw [hb.1 _ (by omega) (by omega)]; exact ck.1
          · show KP _ _ (fu (runS pg k fr i S).un k ((runS pg k fr i S).un k ++ [pgA pg i]) k) (15 * (fu (runS pg k fr i S).un k ((runS pg k fr i S).un k ++ [pgA pg i]) k).length)
            rw [fu_a]
            have e9 : 15 * ((runS pg k fr i S).un k ++ [pgA pg i]).length = 15 * ((runS pg k fr i S).un k).length + pg.la i := by
              rw [List.length_append, List.length_singleton]; omega
            rw [e9]; exact hb.2
          · show (fu (runS pg k fr i S).un k ((runS pg k fr i S).un k ++ [pgA pg i]) k).length ≤ 63
            rw [fu_a, List.length_append, List.length_singleton]; omega) (fun j hj => by
          rw [e]; unfold segS; rw [if_neg (by omega)]
          exact ⟨rfl, rfl, rfl, fu_n hj⟩) (by rw [e]; exact seg_kn.2.2.1) (by rw [e]; unfold segS; rw [if_neg (by omega)]; rfl)
        exact fin W3 h2.1 h2.2
      · have hgoF : ∀ x : Int32, ((x = -1 ∧ (if lsS pg.la pg.n i then pg.ti else 65535) = 65535 ∧ (lsS pg.la pg.n i && decide (pg.fl / 4 % 2 = 1)) = false) ∨ (x = nI pg.pl ∧ pg.pl + 8 < n ∧ w (pg.pl + 4) < 8 ∧ (if lsS pg.la pg.n i then pg.ti else 65535) = w (pg.pl + 7) + 256 * w (pg.pl + 8) ∧ (lsS pg.la pg.n i && decide (pg.fl / 4 % 2 = 1)) = decide (w (pg.pl + 4) / 4 % 2 = 1))) → isO θ (tb θ + 27) 6 ∧ wp_R_finish θ (tb θ + 27) (tb θ + (33 + 3 * k)) x W3 U (fun V_41 U_42 => ∀ y_39 : Int32, y_39 = (nI (pgA pg i) + nI (pg.la i)) → ∀ y_40 : Int32, y_40 = nI i + (1 : Int32) → wl_R_takeSegments_85 θ (tb θ + 27) (tb θ + (33 + 3 * k)) (nI pg.pl) (nI pg.n) (nI fr) xl K f y_39 y_40 V_41 U_42) := by
          intro x hx
          simp only [IC hθ, true_and]
          exact s_finish (p := pg.pl) (pl := pgA pg i) (la := pg.la i) hθ hU hW1 hk3 h1 (by omega) (by rw [g1]; exact hkn) hun q15 (by omega) hx hb (fun W4 f4 h4 => fin W4 f4 (by rw [e]; exact h4))
        simp only [IC hθ, true_and] at hgoF ⊢
        have hx := hxl i hi q15
        refine ⟨fun q2 => hgoF _ (Or.inl ⟨rfl, ?_, ?_⟩), fun q2 => hgoF _ (Or.inr ⟨rfl, by omega, by rw [P6]; exact P7, ?_, ?_⟩)⟩
        · have : ¬ lsS pg.la pg.n i = true := fun h => q2 (hx.mpr h)
          rw [if_neg this]
        · have : lsS pg.la pg.n i = false := by
            cases h : lsS pg.la pg.n i
            · rfl
            · exact absurd (hx.mpr h) q2
          rw [this]; rfl
        · rw [if_pos (hx.mp q2), P10]
        · rw [hx.mp q2, P6]; rfl
  · rintro f b W ⟨rfl, f1, h1⟩
    show bl_R_takeSegments_85 _ _ _ _ _ _ _ _ _ _ _ _ _
    unfold bl_R_takeSegments_85
    exact br_t (nI_le (Nat.le_refl _) (by omega)) (hk W f1 h1)
end RTAKE
