theorem isZ_b (b : Bool) : isZ (if b then 1 else 0) := by
  cases b
  · exact Or.inl rfl
  · exact Or.inr rfl
section RSEG
variable {θ : TH} {sw : Bool} {U : UT} {V V1 V2 : VT} {S : ST} {k se n r : Nat} {w : Nat → Nat}
theorem FRr.wv (h : FRr θ V V2) (hW : WV θ V n r w) : WV θ V2 n r w := by
  unfold WV at hW ⊢
  rw [h.1 _ (Or.inl (by omega)), h.1 _ (Or.inl (by omega))]; exact hW
/-- a segment is carried: a full one stays, a short one ends a packet -/
theorem s_finish {K : VT → UT → Prop} {pl la tm p : Nat} {cl : Bool} {x : Int32} (hθ : OKt θ) (hU : US θ sw U) (hW : WV θ V n r w) (hk3 : k < 3) (hC : CRd θ V S se) (hl : S.ev.length < 8) (hkn : S.kn k = some se) (hu : (S.un k).length ≤ 62) (hla : la < 15) (hpl : pl < 2 ^ 31)
    (hx : (x = -1 ∧ tm = 65535 ∧ cl = false) ∨ (x = nI p ∧ p + 8 < n ∧ w (p + 4) < 8 ∧ tm = w (p + 7) + 256 * w (p + 8) ∧ cl = decide (w (p + 4) / 4 % 2 = 1)))
    (hV1 : (∀ q, q ≠ tb θ + (33 + 3 * k) + 1 → q ≠ tb θ + (33 + 3 * k) + 2 → V1 q = V q) ∧ KP V1 (tb θ + (33 + 3 * k) + 1) (S.un k ++ [pl]) (15 * (S.un k).length + la))
    (hk : ∀ V2, FRr θ V V2 → CRd θ V2 (segS k pl la tm cl S) se → K V2 U) : wp_R_finish θ (tb θ + 27) (tb θ + (33 + 3 * k)) x V1 U K := by
  obtain ⟨⟨i1, i2, i3, i4, i5, i6, i7⟩, -⟩ := ib_k hθ hU hk3
  obtain ⟨⟨j1, j2, j3, j4, j5, j6, j7⟩, -⟩ := eb_k hθ hU hl
  obtain ⟨v1, v2, v3, v4⟩ := hV1
  have hC' := hC
  obtain ⟨c1, c2, c3, c4⟩ := hC
  have ck := c1 k hk3
  have hs : segS k pl la tm cl S = mkS S.kn S.no (fu S.ct k (S.ct k + 1)) (fu S.un k []) S.pc (S.ev ++ [mkE 3 (15 * (S.un k).length + la) tm cl (S.un k ++ [pl])]) := by unfold segS; rw [if_pos hla]
  have hkk : V (tb θ + (33 + 3 * k)) 1 = nI se ∧ V (tb θ + (33 + 3 * k)) 3 = nI (S.ct k) ∧ V (tb θ + (33 + 3 * k)) 0 = 1 ∧ V (tb θ + (33 + 3 * k)) 2 = nI (S.no k) ∧ S.no k < 256 ∧ se < 256 := by
    rcases ck.1 with ⟨a, b⟩ | ⟨s, a1, a2, a3, a4, a5, a6, a7⟩
    · rw [hkn] at a; simp at a
    · rw [hkn] at a2
      obtain rfl : se = s := Option.some.inj a2
      exact ⟨a4, a6, a3, a5, a7, a1⟩
  unfold wp_R_finish
  simp only [i1, i2, i3, IC hθ, true_and]
  refine ⟨by omega, fun a ha => ?_⟩
  subst ha
  refine ⟨i3, ?_⟩
  rw [v3, v1 _ (by omega) (by omega), hkk.1]
  refine s_makeEvent (kd := 3) hθ hU (by rw [v1 _ (by omega) (by omega)]; exact c2) hl (fun W1 p1 p2 p3 p4 p5 p6 => ?_)
  have hlen : (S.un k ++ [pl]).length = (S.un k).length + 1 := by rw [List.length_append]; rfl
  have q1 : W1 (tb θ + (33 + 3 * k) + 1) = V1 (tb θ + (33 + 3 * k) + 1) := p1 _ (by omega) (by omega)
  have q2 : W1 (tb θ + (33 + 3 * k) + 2) = V1 (tb θ + (33 + 3 * k) + 2) := p1 _ (by omega) (by omega)
  unfold wp_K_become
  simp only [i3, i4, i5, j1, j2, j3, j4, j5, true_and, exists_eq_left]
  rw [q1, v2, hlen, nI_clamp (by omega), show (0 : Int32).toNatClampNeg = 0 from rfl]
  refine ⟨by omega, by omega, by omega, by omega, by decide, nI_pos (by omega), by omega, by omega, fun W2 e2 W3 e3 W4 e4 W5 e5 W6 e6 => ?_⟩
  -- the cells of the event's packet
  have b2 : ∀ q, q ≠ tb θ + (42 + 3 * S.ev.length) + 2 → W2 q = W1 q := fun q hq => by rw [e2]; simp only [hq, if_false]
  have b4 : ∀ q, q ≠ tb θ + (42 + 3 * S.ev.length) + 1 → q ≠ tb θ + (42 + 3 * S.ev.length) + 2 → W4 q = W1 q := fun q x y => by rw [e4, up2_ne x, e3, up2_ne x, b2 q y]
  have kp4 : KP W4 (tb θ + (42 + 3 * S.ev.length) + 1) (S.un k ++ [pl]) (15 * (S.un k).length + la) := by
    refine ⟨?_, ?_, fun j hj => ?_⟩
    · rw [e4, up2_ab (by decide), e3, up2_aa, b2 _ (by omega), q1, v2]
    · rw [e4, up2_aa, e3, up2_ne (by omega), b2 _ (by omega), q1, v3]
    · rw [e4, up2_ne (by omega), e3, up2_ne (by omega), e2]
      simp only [show tb θ + (42 + 3 * S.ev.length) + 1 + 1 = tb θ + (42 + 3 * S.ev.length) + 2 from rfl, if_true]
      rw [pk_cpy_in (by omega) (by omega), q2]
      have := v4 j hj
      rw [show 0 + (j - 0) = j by omega]
      exact this
  have b6 : ∀ q, q ≠ tb θ + (42 + 3 * S.ev.length) → W6 q = W4 q := fun q hq => by rw [e6, up2_ne hq, e5, up2_ne hq]
  have hW6 : WV θ W6 n r w := by
    unfold WV at hW ⊢
    rw [b6 _ (by omega), b6 _ (by omega), b4 _ (by omega) (by omega), b4 _ (by omega) (by omega), p1 _ (by omega) (by omega), p1 _ (by omega) (by omega), v1 _ (by omega) (by omega), v1 _ (by omega) (by omega)]; exact hW
  -- the end of it
  have fin : ∀ W7 : VT, (∀ q, q ≠ tb θ + (42 + 3 * S.ev.length) → W7 q = W4 q) → W7 (tb θ + (42 + 3 * S.ev.length)) 0 = nI 3 → W7 (tb θ + (42 + 3 * S.ev.length)) 1 = nI (15 * (S.un k).length + la) → W7 (tb θ + (42 + 3 * S.ev.length)) 2 = nI se → W7 (tb θ + (42 + 3 * S.ev.length)) 3 = nI tm → W7 (tb θ + (42 + 3 * S.ev.length)) 4 = (if cl then 1 else 0) → wb_R_finish_105 θ (tb θ + (33 + 3 * k)) (tb θ + (33 + 3 * k) + 1) K W7 U := by
    intro W7 b7 g0 g1 g2 g3 g4
    unfold wb_R_finish_105 wp_K_clear
    simp only [i1, i3, true_and]
    refine fun W8 e8 W9 e9 Wa ea => ?_
    have ba : ∀ q, q ≠ tb θ + (33 + 3 * k) → q ≠ tb θ + (33 + 3 * k) + 1 → q ≠ tb θ + (42 + 3 * S.ev.length) → q ≠ tb θ + (42 + 3 * S.ev.length) + 1 → q ≠ tb θ + (42 + 3 * S.ev.length) + 2 → Wa q = W1 q := fun q x1 x2 x3 x4 x5 => by rw [ea, up2_ne x1, e9, up2_ne x2, e8, up2_ne x2, b7 q x3, b4 q x4 x5]
    have bi : ∀ j, j ≠ 3 → Wa (tb θ + (33 + 3 * k)) j = V (tb θ + (33 + 3 * k)) j := fun j hj => by
      rw [ea, up2_ab hj, e9, up2_ne (by omega), e8, up2_ne (by omega), b7 _ (by omega), b4 _ (by omega) (by omega), p1 _ (by omega) (by omega), v1 _ (by omega) (by omega)]
    have bi3 : Wa (tb θ + (33 + 3 * k)) 3 = nI (S.ct k + 1) := by
      rw [ea, up2_aa, e9, up2_ne (by omega), e8, up2_ne (by omega), b7 _ (by omega), b4 _ (by omega) (by omega), p1 _ (by omega) (by omega), v1 _ (by omega) (by omega), hkk.2.1, nI_1]
    have be : ∀ q, tb θ + 42 ≤ q → Wa q = W7 q := fun q hq => by rw [ea, up2_ne (by omega), e9, up2_ne (by omega), e8, up2_ne (by omega)]
    refine hk Wa ⟨fun q hq => ?_, ?_⟩ ?_
    · rw [ba q (by omega) (by omega) (by omega) (by omega) (by omega), p1 q (by omega) (by omega), v1 q (by omega) (by omega)]
    · rw [ba _ (by omega) (by omega) (by omega) (by omega) (by omega), p2 5 (by decide), v1 _ (by omega) (by omega)]
    · rw [hs]
      refine ⟨fun k2 hk2 => ?_, ?_, ?_, fun j hj => ?_⟩
      · by_cases hkk2 : k2 = k
        · subst hkk2
          refine ⟨Or.inr ⟨se, hkk.2.2.2.2.2, hkn, ?_, ?_, ?_, ?_, hkk.2.2.2.2.1⟩, ?_, ?_⟩
          · rw [bi 0 (by decide)]; exact hkk.2.2.1
          · rw [bi 1 (by decide)]; exact hkk.1
          · rw [bi 2 (by decide)]; exact hkk.2.2.2.1
          · rw [bi3]; show _ = nI (fu S.ct k2 (S.ct k2 + 1) k2); rw [fu_a]
          · show KP _ _ (fu S.un k2 [] k2) (15 * (fu S.un k2 [] k2).length)
            rw [fu_a]
            refine ⟨?_, ?_, fun j hj => absurd hj (by simp)⟩
            · rw [ea, up2_ne (by omega), e9, up2_ab (by decide), e8, up2_aa]; rfl
            · rw [ea, up2_ne (by omega), e9, up2_aa]; rfl
          · show (fu S.un k2 [] k2).length ≤ 63; rw [fu_a]; exact Nat.zero_le _
        · have bo : ∀ q, q ≠ tb θ + (33 + 3 * k) → q ≠ tb θ + (33 + 3 * k) + 1 → q ≠ tb θ + (33 + 3 * k) + 2 → tb θ + 33 ≤ q → q < tb θ + 42 → Wa q = V q := fun q x1 x2 x3 x4 x5 => by
            rw [ba q x1 x2 (by omega) (by omega) (by omega), p1 q (by omega) (by omega), v1 q x2 x3]
          exact (c1 k2 hk2).of (bo _ (by omega) (by omega) (by omega) (by omega) (by omega)) (bo _ (by omega) (by omega) (by omega) (by omega) (by omega)) (bo _ (by omega) (by omega) (by omega) (by omega) (by omega)) rfl rfl (fu_n hkk2) (fu_n hkk2)
      · rw [ba _ (by omega) (by omega) (by omega) (by omega) (by omega), p3]
        show _ = nI (S.ev ++ [_]).length
        rw [List.length_append]; rfl
      · rw [ba _ (by omega) (by omega) (by omega) (by omega) (by omega), p2 7 (by decide), v1 _ (by omega) (by omega)]; exact c3
      · have hj : j < (S.ev ++ [mkE 3 (15 * (S.un k).length + la) tm cl (S.un k ++ [pl])]).length := hj
        rw [List.length_append, List.length_singleton] at hj
        show CEv θ Wa j ((S.ev ++ [mkE 3 (15 * (S.un k).length + la) tm cl (S.un k ++ [pl])]).getD j ev0) se
        by_cases q : j = S.ev.length
        · subst q
          rw [getD_app_r]
          refine ⟨?_, ?_, ?_, fun _ => ⟨?_, ?_, ?_⟩⟩
          · rw [be _ (by omega)]; exact g0
          · rw [be _ (by omega)]; exact g1
          · rw [be _ (by omega)]; exact g2
          · rw [be _ (by omega)]; exact g3
          · rw [be _ (by omega)]; exact g4
          · show KP _ _ (S.un k ++ [pl]) (15 * (S.un k).length + la)
            unfold KP at kp4 ⊢
            rw [be _ (by omega), be _ (by omega), b7 _ (by omega), b7 _ (by omega)]; exact kp4
        · rw [getD_app_l (by omega)]
          have bo : ∀ i, i ≤ 2 → Wa (tb θ + (42 + 3 * j) + i) = V (tb θ + (42 + 3 * j) + i) := fun i hi => by
            rw [ba _ (by omega) (by omega) (by omega) (by omega) (by omega), p1 _ (by omega) (by omega), v1 _ (by omega) (by omega)]
          exact (c4 j (by omega)).of (bo 0 (by omega)) (bo 1 (by omega)) (bo 2 (by omega))
  have w4e : W4 (tb θ + (42 + 3 * S.ev.length)) = W1 (tb θ + (42 + 3 * S.ev.length)) := b4 _ (by omega) (by omega)
  rcases hx with ⟨rfl, rfl, rfl⟩ | ⟨rfl, hpn, hfl, htm, hcl⟩
  · refine br_t rfl (fin W6 b6 ?_ ?_ ?_ ?_ ?_)
    · rw [e6, up2_ab (by decide), e5, up2_ab (by decide), w4e, p4]
    · rw [e6, up2_ab (by decide), e5, up2_ab (by decide), w4e, p5]
    · rw [e6, up2_ab (by decide), e5, up2_ab (by decide), w4e, p6]
    · rw [e6, up2_ab (by decide), e5, up2_aa]; rfl
    · rw [e6, up2_aa]; rfl
  · have hn := hW.2.1
    refine br_f (nI_nm1 (by omega)) ?_
    simp only [UC hU, IC hθ, true_and]
    refine ⟨by omega, ?_⟩
    rw [show nI p + (7 : Int32) = nI (p + 7) from nI_add p 7, show nI (p + 7) + (1 : Int32) = nI (p + 8) from nI_1 _, show nI p + (4 : Int32) = nI (p + 4) from nI_add p 4]
    refine s_at hθ hU hW6 _ (by omega) ?_
    simp only [UC hU, IC hθ, true_and]
    refine ⟨by omega, s_at hθ hU hW6 _ (by omega) (fun W7 e7 => ?_)⟩
    simp only [UC hU, IC hθ, true_and]
    have b7 : ∀ q, q ≠ tb θ + (42 + 3 * S.ev.length) → W7 q = W6 q := fun q hq => by rw [e7, up2_ne hq]
    have hW7 : WV θ W7 n r w := by
      unfold WV at hW6 ⊢
      rw [b7 _ (by omega), b7 _ (by omega)]; exact hW6
    refine ⟨by omega, s_at hθ hU hW7 _ (by omega) ?_⟩
    rw [bw_in (by omega), bw_in (by omega)] at e7
    rw [bw_in (by omega)]
    obtain ⟨-, -, h8⟩ := fl_bits hfl
    have h7 := (hW.2.2.2.2 (p + 7) (by omega)).2
    have h88 := (hW.2.2.2.2 (p + 8) (by omega)).2
    have et : nI (w (p + 7)) ||| (nI (w (p + 8)) <<< ((8 : Int32) &&& 31)) = nI tm := by
      rw [pk_shlN ((8 : Int32) &&& 31) 8 (by decide) (by omega), Int32.or_comm, or_add (by omega) (by omega) (by omega), htm]
      congr 1; omega
    rw [et] at e7
    have fin2 : ∀ z : Int32, z = (if cl then 1 else 0) → wb_R_finish_102 θ (tb θ + (33 + 3 * k)) (tb θ + (33 + 3 * k) + 1) z (tb θ + (42 + 3 * S.ev.length)) K W7 U := by
      intro z hz
      unfold wb_R_finish_102
      refine ⟨j1, by rw [hz]; exact isZ_b cl, fun W8 e8 => ?_⟩
      refine fin W8 (fun q hq => by rw [e8, up2_ne hq, b7 q hq, b6 q hq]) ?_ ?_ ?_ ?_ ?_
      · rw [e8, up2_ab (by decide), e7, up2_ab (by decide), e6, up2_ab (by decide), e5, up2_ab (by decide), w4e, p4]
      · rw [e8, up2_ab (by decide), e7, up2_ab (by decide), e6, up2_ab (by decide), e5, up2_ab (by decide), w4e, p5]
      · rw [e8, up2_ab (by decide), e7, up2_ab (by decide), e6, up2_ab (by decide), e5, up2_ab (by decide), w4e, p6]
      · rw [e8, up2_ab (by decide), e7, up2_aa]
      · rw [e8, up2_aa, hz]
    refine ⟨fun q => fin2 0 ?_, fun q => fin2 1 ?_⟩
    · rw [hcl, decide_eq_false (h8.mp q)]; rfl
    · have : w (p + 4) / 4 % 2 = 1 := by
        by_cases h : w (p + 4) / 4 % 2 = 1
        · exact h
        · exact absurd (h8.mpr h) q
      rw [hcl, decide_eq_true this]; rfl
end RSEG
