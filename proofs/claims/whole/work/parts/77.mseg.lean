section MSEG
variable {θ : TH} {sw : Bool} {U : UT} {V V1 V2 : VT} {S : ST} {k se n r fr : Nat} {w : Nat → Nat} {pg : PG}
theorem byW_l {l : List Nat} {p i : Nat} (h : i < 15 * l.length) : byW w (l ++ [p]) i = byW w l i := by
  unfold byW; rw [getD_app_l (by omega)]
theorem byW_r {l : List Nat} {p b : Nat} (h : b < 15) : byW w (l ++ [p]) (15 * l.length + b) = w (p + b) := by
  unfold byW
  rw [show (15 * l.length + b) / 15 = l.length by omega, show (15 * l.length + b) % 15 = b by omega, getD_app_r]
/-- after a segment was carried -/
def CAR (θ : TH) (V V2 : VT) (w : Nat → Nat) (k : Nat) (l : List Nat) (pl la : Nat) : Prop := (∀ q, q ≠ tb θ + 140 → q ≠ tb θ + 141 → q ≠ tb θ + 142 → V2 q = V q) ∧ (∀ j, j ≠ k → V2 (tb θ + 140) j = V (tb θ + 140) j ∧ V2 (tb θ + 141) j = V (tb θ + 141) j) ∧ V2 (tb θ + 140) k = 1 ∧ V2 (tb θ + 141) k = nI (15 * l.length + la) ∧ (∀ i, (i < 1000 * k ∨ 1000 * k + 1000 ≤ i) → V2 (tb θ + 142) i = V (tb θ + 142) i) ∧ (∀ i, i < 15 * l.length + la → V2 (tb θ + 142) (1000 * k + i) = nI (byW w (l ++ [pl]) i))
theorem m_carry {K : VT → UT → Prop} {pl la : Nat} (hθ : OKt θ) (hU : US θ sw U) (hW : WM θ V n r w) (hk3 : k < 3) (hM : MIn θ V w k S) (hu : (S.un k).length ≤ 62) (hla : la ≤ 15) (hpl : pl + la ≤ n) (hk : ∀ V2, CAR θ V V2 w k (S.un k) pl la → K V2 U) : wp_M_carry θ (tb θ + 126) (nI k) (nI pl) (nI la) V U K := by
  obtain ⟨a1, a2, a3, a4, a5, a6⟩ := hM
  have hn := hW.2.1
  have hin : vp_in (nI k) 3 := vp_in_nI hk3 (by decide)
  have hc : (nI k).toNatClampNeg = k := nI_clamp (by omega)
  unfold wp_M_carry
  simp only [UM hU, IM hθ, true_and, exists_eq_left, hc]
  refine ⟨by omega, hin, fun W0 e0 => ?_⟩
  refine loop1 (wl := wl_M_carry_10 θ (tb θ + 126) (nI k) (nI pl) (nI la) K) la (fun b X => (∀ q, q ≠ tb θ + 140 → q ≠ tb θ + 141 → q ≠ tb θ + 142 → X q = V q) ∧ X (tb θ + 140) = W0 (tb θ + 140) ∧ (∀ j, j ≠ k → X (tb θ + 141) j = V (tb θ + 141) j) ∧ X (tb θ + 141) k = nI (15 * (S.un k).length + b) ∧ (∀ i, (i < 1000 * k ∨ 1000 * k + 1000 ≤ i) → X (tb θ + 142) i = V (tb θ + 142) i) ∧ (∀ i, i < 15 * (S.un k).length + b → X (tb θ + 142) (1000 * k + i) = nI (byW w (S.un k ++ [pl]) i))) ?_ ?_ ?_
  · refine ⟨fun q x y z => by rw [e0, up2_ne x], rfl, fun j hj => by rw [e0, up2_ne (by omega)], by rw [e0, up2_ne (by omega)]; exact a4, fun i _ => by rw [e0, up2_ne (by omega)], fun i hi => ?_⟩
    rw [e0, up2_ne (by omega), byW_l hi]; exact a5 i hi
  · rintro f b X hb ⟨x1, x2, x3, x4, x5, x6⟩ hgo
    show bl_M_carry_10 _ _ _ _ _ _ _ _ _ _
    unfold bl_M_carry_10
    have e1000 : (1000 : Int32) * nI k = nI (1000 * k) := pk_mul 1000 k
    simp only [UM hU, IM hθ, true_and, exists_eq_left, hc, x4, e1000, nI_add]
    rw [nI_clamp (show 1000 * k + (15 * (S.un k).length + b) < 2 ^ 31 by omega), nI_clamp (show pl + b < 2 ^ 31 by omega), x1 (tb θ + 127) (by omega) (by omega) (by omega), (hW.2.2.2.2 (pl + b) (by omega)).1]
    refine br_f (nI_ge hb (by omega)) ⟨by omega, by omega, hin, by omega, vp_in_nI (by omega) (by decide), vp_in_nI (by omega) (by decide), fun X1 e1 X2 e2 z hz => ?_⟩
    have h1 : X1 (tb θ + 141) k + 1 = nI (15 * (S.un k).length + (b + 1)) := by rw [e1, up2_ne (by omega), x4, nI_1]; rfl
    rw [h1] at e2
    rw [hz, nI_1]
    refine hgo X2 ⟨fun q x y v => by rw [e2, up2_ne y, e1, up2_ne v, x1 q x y v], by rw [e2, up2_ne (by omega), e1, up2_ne (by omega), x2], fun j hj => by rw [e2, up2_ab hj, e1, up2_ne (by omega), x3 j hj], by rw [e2, up2_aa], fun i hi => ?_, fun i hi => ?_⟩
    · rw [e2, up2_ne (by omega), e1, up2_ab (by omega), x5 i hi]
    · rw [e2, up2_ne (by omega), e1]
      by_cases q : i = 15 * (S.un k).length + b
      · subst q; rw [up2_aa, byW_r (by omega)]
      · rw [up2_ab (by omega)]; exact x6 i (by omega)
  · rintro f X ⟨x1, x2, x3, x4, x5, x6⟩
    show bl_M_carry_10 _ _ _ _ _ _ _ _ _ _
    unfold bl_M_carry_10
    refine br_t (nI_le (Nat.le_refl _) (by omega)) (hk X ⟨x1, fun j hj => ⟨?_, x3 j hj⟩, ?_, x4, x5, x6⟩)
    · rw [x2, e0, up2_ab hj]
    · rw [x2, e0, up2_aa]
/-- a full segment stays -/
theorem MRd.full {pl tm : Nat} {cl : Bool} (hk3 : k < 3) (hM : MRd θ V w S) (hu : (S.un k).length ≤ 62) (h : CAR θ V V2 w k (S.un k) pl 15) : FRm θ V V2 ∧ MRd θ V2 w (segS k pl 15 tm cl S) := by
  obtain ⟨c1, c2, c3, c4, c5⟩ := hM
  obtain ⟨x1, x2, x3, x4, x5, x6⟩ := h
  have hs : segS k pl 15 tm cl S = mkS S.kn S.no S.ct (fu S.un k (S.un k ++ [pl])) S.pc S.ev := by unfold segS; rw [if_neg (by decide)]
  rw [hs]
  refine ⟨⟨fun q a b => x1 q (by omega) (by omega) (by omega), fun j a b c => by rw [x1 _ (by omega) (by omega) (by omega)]⟩, fun k2 hk2 => ?_, ?_, ?_, ?_, ?_⟩
  · by_cases hkk : k2 = k
    · subst hkk
      obtain ⟨a1, a2, a3, a4, a5, a6⟩ := c1 k2 hk3
      have eu : (mkS S.kn S.no S.ct (fu S.un k2 (S.un k2 ++ [pl])) S.pc S.ev).un k2 = S.un k2 ++ [pl] := fu_a
      have el : (S.un k2 ++ [pl]).length = (S.un k2).length + 1 := by rw [List.length_append]; rfl
      unfold MIn
      rw [eu, el, x1 (tb θ + 137) (by omega) (by omega) (by omega), x1 (tb θ + 138) (by omega) (by omega) (by omega), x1 (tb θ + 139) (by omega) (by omega) (by omega), if_neg (by simp)]
      exact ⟨a1, a2, x3, x4, fun i hi => x6 i (by omega), by omega⟩
    · refine (c1 k2 hk2).of (fun q a b => ?_) (fun i hi => x5 _ (by omega)) rfl rfl rfl (fu_n hkk)
      by_cases q1 : q = tb θ + 141
      · subst q1; exact (x2 k2 hkk).2
      · by_cases q2 : q = tb θ + 140
        · subst q2; exact (x2 k2 hkk).1
        · rw [x1 q q2 q1 (by omega)]
  · rw [x1 _ (by omega) (by omega) (by omega)]; exact c2
  · rw [x1 _ (by omega) (by omega) (by omega)]; exact c3
  · rw [x1 _ (by omega) (by omega) (by omega)]; exact c4
  · exact c5.of (fun j hj => by rw [x1 _ (by omega) (by omega) (by omega), x1 _ (by omega) (by omega) (by omega), x1 _ (by omega) (by omega) (by omega), x1 _ (by omega) (by omega) (by omega), x1 _ (by omega) (by omega) (by omega)]; exact ⟨rfl, rfl, rfl, rfl, rfl⟩) (fun i hi => by rw [x1 _ (by omega) (by omega) (by omega)])
/-- a short one ends its packet -/
theorem m_finish {K : VT → UT → Prop} {pl la tm : Nat} {cl : Bool} {x : Int32} (hθ : OKt θ) (hU : US θ sw U) (hk3 : k < 3) (hM : MRd θ V w S) (hl : S.ev.length < 8) (hkn : S.kn k = some se) (hu : (S.un k).length ≤ 62) (hla : la < 15) (hx : x = (if cl then 1 else 0)) (hst : stoE S.ev + (15 * (S.un k).length + la) ≤ 1000) (h : CAR θ V V1 w k (S.un k) pl la) (hk : ∀ V2, FRm θ V V2 → MRd θ V2 w (segS k pl la tm cl S) → K V2 U) : wp_M_finish θ (tb θ + 126) (nI k) (nI tm) x V1 U K := by
  obtain ⟨c1, c2, c3, c4, c5⟩ := hM
  obtain ⟨x1, x2, x3, x4, x5, x6⟩ := h
  obtain ⟨a1, a2, a3, a4, a5, a6⟩ := c1 k hk3
  obtain ⟨a21, a22, a23, a24⟩ := a2 se hkn
  have hs : segS k pl la tm cl S = mkS S.kn S.no (fu S.ct k (S.ct k + 1)) (fu S.un k []) S.pc (S.ev ++ [mkE 3 (15 * (S.un k).length + la) tm cl (S.un k ++ [pl])]) := by unfold segS; rw [if_pos hla]
  have hin : vp_in (nI k) 3 := vp_in_nI hk3 (by decide)
  have hc : (nI k).toNatClampNeg = k := nI_clamp (by omega)
  have e126 : V1 (tb θ + 126) = V (tb θ + 126) := x1 _ (by omega) (by omega) (by omega)
  unfold wp_M_finish
  simp only [UM hU, IM hθ, true_and, exists_eq_left, e126, c3, c4]
  refine ⟨by omega, vp_in_nI hl (by decide), fun W0 e0 => ?_⟩
  rw [nI_clamp (by omega)] at e0
  have b0 : ∀ q, q ≠ tb θ + 147 → W0 q = V1 q := fun q hq => by rw [e0, up2_ne hq]
  generalize hL : 15 * (S.un k).length + la = L at *
  refine loop1 (wl := wl_M_finish_16 θ (tb θ + 126) (nI k) (nI tm) x K) L (fun b X => (∀ q, q ≠ tb θ + 126 → q ≠ tb θ + 148 → X q = W0 q) ∧ (∀ j, j ≠ 29 → X (tb θ + 126) j = V (tb θ + 126) j) ∧ X (tb θ + 126) 29 = nI (stoE S.ev + b) ∧ (∀ i, i < stoE S.ev → X (tb θ + 148) i = V (tb θ + 148) i) ∧ ∀ i, i < b → X (tb θ + 148) (stoE S.ev + i) = nI (byW w (S.un k ++ [pl]) i)) ?_ ?_ ?_
  · refine ⟨fun _ _ _ => rfl, fun j hj => by rw [b0 _ (by omega), e126], by rw [b0 _ (by omega), e126]; exact c4, fun i hi => by rw [b0 _ (by omega), x1 _ (by omega) (by omega) (by omega)], fun i hi => absurd hi (by omega)⟩
  · rintro f b X hb ⟨y1, y2, y3, y4, y5⟩ hgo
    show bl_M_finish_16 _ _ _ _ _ _ _ _ _ _
    unfold bl_M_finish_16
    have e1000 : (1000 : Int32) * nI k = nI (1000 * k) := pk_mul 1000 k
    have e141 : X (tb θ + 141) k = nI L := by rw [y1 _ (by omega) (by omega), b0 _ (by omega), x4]
    simp only [UM hU, IM hθ, true_and, exists_eq_left, hc, e141, e1000, nI_add, y3]
    rw [nI_clamp (show 1000 * k + b < 2 ^ 31 by omega), nI_clamp (show stoE S.ev + b < 2 ^ 31 by omega), y1 (tb θ + 142) (by omega) (by omega), b0 _ (by omega), x6 b hb]
    refine ⟨by omega, hin, br_f (nI_ge hb (by omega)) ⟨by omega, by omega, vp_in_nI (by omega) (by decide), vp_in_nI (by omega) (by decide), fun X1 e1 X2 e2 z hz => ?_⟩⟩
    have h1 : X1 (tb θ + 126) 29 + 1 = nI (stoE S.ev + (b + 1)) := by rw [e1, up2_ne (by omega), y3, nI_1]; rfl
    rw [h1] at e2
    rw [hz, nI_1]
    refine hgo X2 ⟨fun q u v => by rw [e2, up2_ne u, e1, up2_ne v, y1 q u v], fun j hj => by rw [e2, up2_ab hj, e1, up2_ne (by omega), y2 j hj], by rw [e2, up2_aa], fun i hi => ?_, fun i hi => ?_⟩
    · rw [e2, up2_ne (by omega), e1, up2_ab (by omega), y4 i hi]
    · rw [e2, up2_ne (by omega), e1]
      by_cases q : i = b
      · subst q; rw [up2_aa]
      · rw [up2_ab (by omega)]; exact y5 i (by omega)
  · rintro f X ⟨y1, y2, y3, y4, y5⟩
    show bl_M_finish_16 _ _ _ _ _ _ _ _ _ _
    unfold bl_M_finish_16
    have e141 : X (tb θ + 141) k = nI L := by rw [y1 _ (by omega) (by omega), b0 _ (by omega), x4]
    simp only [UM hU, IM hθ, true_and, exists_eq_left, hc, e141]
    refine ⟨by omega, hin, br_t (nI_le (Nat.le_refl _) (by omega)) ?_⟩
    refine m_event (tm := tm) (m := S.ev.length) hθ hU (by rw [y2 22 (by decide)]; exact c3) hl (by rw [hx]; exact isZ_b cl) (fun Y p1 p2 p3 p4 p5 p6 p7 p8 => ?_)
    simp only [UM hU, IM hθ, exists_eq_left]
    refine ⟨by omega, hin, fun Y1 e1 => ⟨by omega, hin, fun Y2 e2 => ⟨by omega, hin, fun Y3 e3 => ?_⟩⟩⟩
    have hY139 : Y2 (tb θ + 139) k + 1 = nI (S.ct k + 1) := by
      rw [e2, up2_ne (by omega), e1, up2_ne (by omega), p1 _ (by omega) (by omega), y1 _ (by omega) (by omega), b0 _ (by omega), x1 _ (by omega) (by omega) (by omega), a23, nI_1]
    rw [hY139] at e3
    have z3 : ∀ q, q ≠ tb θ + 139 → q ≠ tb θ + 140 → q ≠ tb θ + 141 → Y3 q = Y q := fun q u v t => by rw [e3, up2_ne u, e2, up2_ne t, e1, up2_ne v]
    have zz : ∀ q, q ≠ tb θ + 126 → q ≠ tb θ + 139 → q ≠ tb θ + 140 → q ≠ tb θ + 141 → q ≠ tb θ + 142 → (q < tb θ + 143 ∨ tb θ + 148 < q) → Y3 q = V q := fun q u1 u2 u3 u4 u5 u6 => by
      rw [z3 q u2 u3 u4, p1 q u1 (by omega), y1 q u1 (by omega), b0 q (by omega), x1 q u3 u4 u5]
    have ev : ∀ q, tb θ + 143 ≤ q → q ≤ tb θ + 147 → ∀ j, j < S.ev.length → Y3 q j = V q j := by
      intro q q1 q2 j hj
      rw [z3 q (by omega) (by omega) (by omega)]
      have hx1 : X q j = V q j := by
        rw [y1 q (by omega) (by omega), e0]
        by_cases h7 : q = tb θ + 147
        · subst h7; rw [up2_ab (by omega), x1 _ (by omega) (by omega) (by omega)]
        · rw [up2_ne h7, x1 _ (by omega) (by omega) (by omega)]
      obtain ⟨d1, d2, d3, d4⟩ := p4 j (by omega)
      have h5 : q = tb θ + 143 ∨ q = tb θ + 144 ∨ q = tb θ + 145 ∨ q = tb θ + 146 ∨ q = tb θ + 147 := by omega
      rcases h5 with rfl | rfl | rfl | rfl | rfl
      · rw [d1]; exact hx1
      · rw [d2]; exact hx1
      · rw [d3]; exact hx1
      · rw [d4]; exact hx1
      · rw [p1 _ (by omega) (by omega)]; exact hx1
    have st : ∀ i, Y3 (tb θ + 148) i = X (tb θ + 148) i := fun i => by rw [z3 _ (by omega) (by omega) (by omega), p1 _ (by omega) (by omega)]
    refine hk Y3 ⟨fun q u v => zz q u (by omega) (by omega) (by omega) (by omega) (by omega), fun j u v t => ?_⟩ ?_
    · rw [z3 _ (by omega) (by omega) (by omega), p2 j v, y2 j t]
    · rw [hs]
      refine ⟨fun k2 hk2 => ?_, ?_, ?_, ?_, ?_⟩
      · by_cases hkk : k2 = k
        · subst hkk
          have eu : (mkS S.kn S.no (fu S.ct k2 (S.ct k2 + 1)) (fu S.un k2 []) S.pc (S.ev ++ [mkE 3 L tm cl (S.un k2 ++ [pl])])).un k2 = [] := fu_a
          have ec : (mkS S.kn S.no (fu S.ct k2 (S.ct k2 + 1)) (fu S.un k2 []) S.pc (S.ev ++ [mkE 3 L tm cl (S.un k2 ++ [pl])])).ct k2 = S.ct k2 + 1 := fu_a
          unfold MIn
          rw [eu, ec, if_pos rfl]
          refine ⟨?_, fun s hs2 => ?_, ?_, ?_, fun i hi => absurd hi (by simp), Nat.zero_le _⟩
          · rw [zz _ (by omega) (by omega) (by omega) (by omega) (by omega) (by omega)]; exact a1
          · have : s = se := by
              have hs2 : S.kn k2 = some s := hs2
              rw [hkn] at hs2; exact (Option.some.inj hs2).symm
            subst this
            refine ⟨a21, ?_, ?_, a24⟩
            · rw [zz _ (by omega) (by omega) (by omega) (by omega) (by omega) (by omega)]; exact a22
            · rw [e3, up2_aa]
          · rw [e3, up2_ne (by omega), e2, up2_ne (by omega), e1, up2_aa]
          · rw [e3, up2_ne (by omega), e2, up2_aa]; rfl
        · refine (c1 k2 hk2).of (fun q u v => ?_) (fun i hi => ?_) rfl rfl (fu_n hkk) (fu_n hkk)
          · have h5 : q = tb θ + 137 ∨ q = tb θ + 138 ∨ q = tb θ + 139 ∨ q = tb θ + 140 ∨ q = tb θ + 141 := by omega
            rcases h5 with rfl | rfl | rfl | rfl | rfl
            · rw [zz _ (by omega) (by omega) (by omega) (by omega) (by omega) (by omega)]
            · rw [zz _ (by omega) (by omega) (by omega) (by omega) (by omega) (by omega)]
            · rw [e3, up2_ab hkk, e2, up2_ne (by omega), e1, up2_ne (by omega), p1 _ (by omega) (by omega), y1 _ (by omega) (by omega), b0 _ (by omega), x1 _ (by omega) (by omega) (by omega)]
            · rw [e3, up2_ne (by omega), e2, up2_ne (by omega), e1, up2_ab hkk, p1 _ (by omega) (by omega), y1 _ (by omega) (by omega), b0 _ (by omega)]; exact (x2 k2 hkk).1
            · rw [e3, up2_ne (by omega), e2, up2_ab hkk, e1, up2_ne (by omega), p1 _ (by omega) (by omega), y1 _ (by omega) (by omega), b0 _ (by omega)]; exact (x2 k2 hkk).2
          · rw [z3 _ (by omega) (by omega) (by omega), p1 _ (by omega) (by omega), y1 _ (by omega) (by omega), b0 _ (by omega)]
            exact x5 _ (by omega)
      · rw [z3 _ (by omega) (by omega) (by omega), p2 21 (by decide), y2 21 (by decide)]; exact c2
      · rw [z3 _ (by omega) (by omega) (by omega), p3]
        show _ = nI (S.ev ++ [_]).length
        rw [List.length_append]; rfl
      · rw [z3 _ (by omega) (by omega) (by omega), p2 29 (by decide), y3]
        show _ = nI (stoE (S.ev ++ [_]))
        rw [stoE_app]; rfl
      · refine MEs.snoc (c5.of (fun j hj => ⟨ev _ (by omega) (by omega) j hj, ev _ (by omega) (by omega) j hj, ev _ (by omega) (by omega) j hj, ev _ (by omega) (by omega) j hj, ev _ (by omega) (by omega) j hj⟩) (fun i hi => by rw [st]; exact y4 i hi)) ⟨?_, ?_, fun _ => ⟨?_, ?_, ?_, fun i hi => ?_⟩⟩
        · rw [z3 _ (by omega) (by omega) (by omega)]; exact p5
        · rw [z3 _ (by omega) (by omega) (by omega)]; exact p6
        · rw [z3 _ (by omega) (by omega) (by omega)]; exact p7
        · rw [z3 _ (by omega) (by omega) (by omega), p8, hx]; rfl
        · rw [z3 _ (by omega) (by omega) (by omega), p1 _ (by omega) (by omega), y1 _ (by omega) (by omega), e0, up2_aa]
        · rw [st]; exact y5 i hi
end MSEG
