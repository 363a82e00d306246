-- a block of sound, the reference
section MSOUND
variable {θ : TH} {V : VT} {U : UT} {sw : Bool} {p : PK} {vd : VD} {cd : CD} {c B la : Nat} {bk : Nat → BD} {s : RS}
def FRq (θ : TH) (V W : VT) : Prop := (∀ q, q ≠ tb θ + 126 → (q < tb θ + 158 ∨ tb θ + 165 < q) → W q = V q) ∧ (∀ j, j ≠ 39 → j ≠ 40 → j ≠ 54 → j ≠ 55 → j ≠ 56 → j ≠ 57 → j ≠ 58 → j ≠ 65 → j ≠ 68 → W (tb θ + 126) j = V (tb θ + 126) j)
theorem m_join {K : VT → UT → Prop} (hθ : OKt θ) (hU : US θ sw U) {x : Nat} (hx : x < 32) (h : ∀ W, (∀ q, q ≠ tb θ + 160 → W q = V q) → (∀ j, j ≠ x → j ≠ 32 + x → W (tb θ + 160) j = V (tb θ + 160) j) → W (tb θ + 160) x = jn0 (V (tb θ + 160) x) (V (tb θ + 160) (32 + x)) → W (tb θ + 160) (32 + x) = jn1 (V (tb θ + 160) x) (V (tb θ + 160) (32 + x)) → K W U) : wp_M_join θ (tb θ + 126) (nI x) V U K := by
  have i32 : (32 : Int32) + nI x = nI (32 + x) := nI_add 32 x
  have hin : vp_in (nI x) 64 := vp_in_nI (by omega) (by decide)
  have hin2 : vp_in (nI (32 + x)) 64 := vp_in_nI (by omega) (by decide)
  unfold wp_M_join
  simp only [UM hU, IM hθ, true_and, exists_eq_left, i32]
  rw [nI_clamp (show x < 2 ^ 31 by omega), nI_clamp (show 32 + x < 2 ^ 31 by omega)]
  refine ⟨by omega, hin, fun y6 e6 => ⟨hin2, fun y8 e8 => ?_⟩⟩
  subst e6 e8
  have fin : ∀ z : Int32, (z = 0 ↔ V (tb θ + 160) x ≤ 0) → wb_M_join_26 θ (tb θ + 126) (nI x) (V (tb θ + 160) x) (V (tb θ + 160) (32 + x)) z K V U := by
    intro z hz
    unfold wb_M_join_26 wb_M_join_54 wb_M_join_77
    simp only [UM hU, IM hθ, true_and, exists_eq_left, i32]
    rw [nI_clamp (show x < 2 ^ 31 by omega), nI_clamp (show 32 + x < 2 ^ 31 by omega)]
    refine ⟨fun qa => ⟨by omega, fun qz => ⟨hin, fun V20 h20 => ⟨by omega, hin2, fun V26 h26 => h V26 ?_ ?_ ?_ ?_⟩⟩, fun qz => ⟨hin, fun V20 h20 => ⟨by omega, hin2, fun V26 h26 => h V26 ?_ ?_ ?_ ?_⟩⟩⟩, fun qa => ⟨by omega, fun qz => ⟨hin2, fun V30 h30 => h V30 ?_ ?_ ?_ ?_⟩, fun qz => ⟨hin2, fun V30 h30 => h V30 ?_ ?_ ?_ ?_⟩⟩⟩
    · intro q a; rw [h26, h20, up2_ne a, up2_ne a]
    · intro j a b; rw [h26, h20, up2_ab b, up2_ab a]
    · rw [h26, h20, up2_ab (by omega), up2_aa]; unfold jn0; rw [if_pos qa, if_pos (hz.1 qz)]
    · rw [h26, up2_aa]; unfold jn1; rw [if_pos qa]
    · intro q a; rw [h26, h20, up2_ne a, up2_ne a]
    · intro j a b; rw [h26, h20, up2_ab b, up2_ab a]
    · rw [h26, h20, up2_ab (by omega), up2_aa]; unfold jn0; rw [if_pos qa, if_neg (fun w => qz (hz.2 w))]
    · rw [h26, up2_aa]; unfold jn1; rw [if_pos qa]
    · intro q a; rw [h30, up2_ne a]
    · intro j a b; rw [h30, up2_ab b]
    · rw [h30, up2_ab (by omega)]; unfold jn0; rw [if_neg qa]
    · rw [h30, up2_aa]; unfold jn1; rw [if_neg qa, if_pos (hz.1 qz)]
    · intro q a; rw [h30, up2_ne a]
    · intro j a b; rw [h30, up2_ab b]
    · rw [h30, up2_ab (by omega)]; unfold jn0; rw [if_neg qa]
    · rw [h30, up2_aa]; unfold jn1; rw [if_neg qa, if_neg (fun w => qz (hz.2 w))]
  exact ⟨fun q => fin 0 ⟨fun _ => q, fun _ => rfl⟩, fun q => fin 1 ⟨fun w => absurd w (by decide), fun w => absurd w q⟩⟩
set_option maxHeartbeats 4000000 in
theorem m_sound {K : Int32 → VT → UT → Prop} (hθ : OKt θ) (hU : US θ sw U) (hla : la ≤ 48) (h53 : V (tb θ + 126) 53 = nI la) (hp : MP θ V p) (hs : s.1 ≤ 8 * p.L) (hB : B ≤ 4) (hc : c ≤ 2) (hc0 : 0 < c) (h41 : V (tb θ + 126) 41 = nI c) {sS sL : Nat} (h42 : V (tb θ + 126) 42 = nI sS) (h43 : V (tb θ + 126) 43 = nI sL) (hS1 : 8 ≤ sS ∧ sS ≤ 64 ∧ sS % 2 = 0) (hL1 : 8 ≤ sL ∧ sL ≤ 64 ∧ sL % 2 = 0) (hcp : CPP cd B) (hcm : CPM θ V la cd) (hvp : VPP vd B c bk) (hvm : VPM θ V la vd) (hbk : ∀ k, k < B → BKP (bk k) ∧ BKM θ V k (bk k)) {bf : Int32} (hbf : bf = if V (tb θ + 126) 54 = 0 then 0 else V (tb θ + 126) 57) (h0 : (sd2 p s).2 = true → K 0 (mS θ V (sd2 p s)) U) (h1 : (sd2 p s).2 = false → ∀ W sz, sz = (if spB p s = true then sL else sS) → FRq θ V W → W (tb θ + 126) 54 = 1 → W (tb θ + 126) 55 = bZ (spB p s) → W (tb θ + 126) 56 = nI (sdW p s) → W (tb θ + 126) 57 = nI sz → W (tb θ + 126) 58 = bZ (sdV p bk cd vd s c (sz / 2)).s.2 → W (tb θ + 126) 68 = smpN (V (tb θ + 126) 68) bf (nI sz) (V (tb θ + 126) 38) (V (tb θ + 126) 37) → (∀ ch, ch < 2 → W (tb θ + 158) ch = bZ (sdU p bk cd s c ch)) → (∀ ch x, ch < c → x < sz / 2 → W (tb θ + 159) (32 * ch + x) = sdC p bk cd s c ch x ∧ W (tb θ + 160) (32 * ch + x) = sdF p bk cd vd s c (sz / 2) ch x) → K 1 W U) : wp_M_sound θ (tb θ + 126) (mS θ V s) U K := by
  have e126 : ∀ X t j x, X (tb θ + 126) j = x → j ≠ 39 → j ≠ 40 → mS θ X t (tb θ + 126) j = x := fun X t j x hX a b => by rw [mS_j a b]; exact hX
  have i40 : nI la + (40 : Int32) = nI (la + 40) := nI_add la 40
  -- go on behind the head
  have main : ∀ x1 : Int32, x1 = bZ (spB p s) → wb_M_sound_29 θ (tb θ + 126) x1 (nI (sdW p s)) K (mS θ V (sd2 p s)) U := by
    intro x1 hx1
    unfold wb_M_sound_29
    simp only [IM hθ, true_and]
    rw [mS_40, e126 V _ 54 _ rfl (by decide) (by decide), e126 V _ 57 _ rfl (by decide) (by decide)]
    refine ⟨fun q => ?_, fun q => h0 ?_⟩
    rotate_left
    · cases e : (sd2 p s).2
      · rw [e] at q; exact absurd rfl q
      · rfl
    have hno : (sd2 p s).2 = false := bZ_0.1 q
    have go : ∀ x3 : Int32, x3 = bf → wb_M_sound_54 θ (tb θ + 126) x1 (nI (sdW p s)) x3 K (mS θ V (sd2 p s)) U := by
      intro x3 hx3
      subst hx3
      have body : wb_M_sound_71 θ (tb θ + 126) (nI (sdW p s)) x3 (bZ (spB p s)) (tb θ + 126) K (mS θ (up2 V (tb θ + 126) 54 1) (sd2 p s)) U := by
        unfold wb_M_sound_71
        simp only [IM hθ, true_and]
        refine ⟨bZ_Z _, fun V18 h18 V20 h20 => ?_⟩
        rw [mS_upj (by decide) (by decide)] at h18
        rw [h18, mS_upj (by decide) (by decide)] at h20
        subst h20
        have A55 : up2 (up2 (up2 V (tb θ + 126) 54 1) (tb θ + 126) 55 (bZ (spB p s))) (tb θ + 126) 56 (nI (sdW p s)) (tb θ + 126) 55 = bZ (spB p s) := by rw [up2_ab (by decide), up2_aa]
        have A42 : up2 (up2 (up2 V (tb θ + 126) 54 1) (tb θ + 126) 55 (bZ (spB p s))) (tb θ + 126) 56 (nI (sdW p s)) (tb θ + 126) 42 = nI sS := by rw [up2_ab (by decide), up2_ab (by decide), up2_ab (by decide)]; exact h42
        have A43 : up2 (up2 (up2 V (tb θ + 126) 54 1) (tb θ + 126) 55 (bZ (spB p s))) (tb θ + 126) 56 (nI (sdW p s)) (tb θ + 126) 43 = nI sL := by rw [up2_ab (by decide), up2_ab (by decide), up2_ab (by decide)]; exact h43
        rw [e126 _ _ 55 _ A55 (by decide) (by decide), e126 _ _ 42 _ A42 (by decide) (by decide), e126 _ _ 43 _ A43 (by decide) (by decide)]
        have rest : ∀ sz, sz = (if spB p s = true then sL else sS) → ∀ V22, V22 = up2 (mS θ (up2 (up2 (up2 V (tb θ + 126) 54 1) (tb θ + 126) 55 (bZ (spB p s))) (tb θ + 126) 56 (nI (sdW p s))) (sd2 p s)) (tb θ + 126) 57 (nI sz) → ∃ n, wl_M_sound_104 θ (tb θ + 126) x3 K n (0 : Int32) V22 U := by
          intro sz hsz V22 h22
          have hszb : 8 ≤ sz ∧ sz ≤ 64 ∧ sz % 2 = 0 := by rw [hsz]; split; exact hL1; exact hS1
          rw [mS_upj (by decide) (by decide)] at h22
          subst h22
          obtain ⟨W0, hW0⟩ : ∃ W0, W0 = up2 (up2 (up2 (up2 V (tb θ + 126) 54 1) (tb θ + 126) 55 (bZ (spB p s))) (tb θ + 126) 56 (nI (sdW p s))) (tb θ + 126) 57 (nI sz) := ⟨_, rfl⟩
          rw [← hW0]
          have f1 : ∀ q, q ≠ tb θ + 126 → W0 q = V q := fun q hq => by rw [hW0, up2_ne hq, up2_ne hq, up2_ne hq, up2_ne hq]
          have f2 : ∀ j, j ≠ 54 → j ≠ 55 → j ≠ 56 → j ≠ 57 → W0 (tb θ + 126) j = V (tb θ + 126) j := fun j a b d e => by rw [hW0, up2_ab e, up2_ab d, up2_ab b, up2_ab a]
          have f54 : W0 (tb θ + 126) 54 = 1 := by rw [hW0, up2_ab (by decide), up2_ab (by decide), up2_ab (by decide), up2_aa]
          have f55 : W0 (tb θ + 126) 55 = bZ (spB p s) := by rw [hW0, up2_ab (by decide), up2_ab (by decide), up2_aa]
          have f56 : W0 (tb θ + 126) 56 = nI (sdW p s) := by rw [hW0, up2_ab (by decide), up2_aa]
          have f57 : W0 (tb θ + 126) 57 = nI sz := by rw [hW0, up2_aa]
          clear hW0
          have hw : sz / 2 ≤ 32 := by omega
          have frm : ∀ W : VT, (∀ q, q ≠ tb θ + 126 → (q < tb θ + 158 ∨ tb θ + 165 < q) → W q = W0 q) → (∀ j, j ≠ 65 → W (tb θ + 126) j = W0 (tb θ + 126) j) → MP θ W p ∧ CPM θ W la cd ∧ VPM θ W la vd ∧ (∀ k, k < B → BKP (bk k) ∧ BKM θ W k (bk k)) ∧ W (tb θ + 126) 41 = nI c ∧ W (tb θ + 126) 53 = nI la ∧ W (tb θ + 126) 57 = nI sz := by
            intro W g1 g2
            have g : ∀ q, q ≠ tb θ + 126 → (q < tb θ + 158 ∨ tb θ + 165 < q) → W q = V q := fun q a b => by rw [g1 q a b, f1 q a]
            refine ⟨hp.eq (by rw [g2 36 (by decide), f2 36 (by decide) (by decide) (by decide) (by decide)]) (g _ (by omega) (by omega)), hcm.eq (g _ (by omega) (by omega)), hvm.eq (g _ (by omega) (by omega)), fun k hk => ⟨(hbk k hk).1, (hbk k hk).2.eq (fun a _ _ => g _ (by omega) (by omega))⟩, ?_, ?_, ?_⟩
            · rw [g2 41 (by decide), f2 41 (by decide) (by decide) (by decide) (by decide)]; exact h41
            · rw [g2 53 (by decide), f2 53 (by decide) (by decide) (by decide) (by decide)]; exact h53
            · rw [g2 57 (by decide)]; exact f57
          -- the samples, the end
          have last : ∀ Y t, (∀ q, q ≠ tb θ + 126 → (q < tb θ + 158 ∨ tb θ + 165 < q) → Y q = W0 q) → (∀ j, j ≠ 65 → j ≠ 58 → Y (tb θ + 126) j = W0 (tb θ + 126) j) → Y (tb θ + 126) 58 = bZ (sdV p bk cd vd s c (sz / 2)).s.2 → (∀ ch, ch < 2 → Y (tb θ + 158) ch = bZ (sdU p bk cd s c ch)) → (∀ ch x, ch < c → x < sz / 2 → Y (tb θ + 159) (32 * ch + x) = sdC p bk cd s c ch x ∧ Y (tb θ + 160) (32 * ch + x) = sdF p bk cd vd s c (sz / 2) ch x) → wb_M_sound_225 θ (tb θ + 126) x3 K (mS θ Y t) U := by
            intro Y t y1 y2 y3 y4 y5
            have Y68 : Y (tb θ + 126) 68 = V (tb θ + 126) 68 := by rw [y2 68 (by decide) (by decide), f2 68 (by decide) (by decide) (by decide) (by decide)]
            have Y57 : Y (tb θ + 126) 57 = nI sz := by rw [y2 57 (by decide) (by decide)]; exact f57
            have Y38 : Y (tb θ + 126) 38 = V (tb θ + 126) 38 := by rw [y2 38 (by decide) (by decide), f2 38 (by decide) (by decide) (by decide) (by decide)]
            have Y37 : Y (tb θ + 126) 37 = V (tb θ + 126) 37 := by rw [y2 37 (by decide) (by decide), f2 37 (by decide) (by decide) (by decide) (by decide)]
            have cnt : ∀ z0 z1 : Int32, z1 + z0 = (if x3 ≤ 0 then V (tb θ + 126) 68 else V (tb θ + 126) 68 + (x3 / 4 + nI sz / 4)) → wb_M_sound_248 θ (tb θ + 126) z0 z1 (tb θ + 126) K (mS θ Y t) U := by
              intro z0 z1 hz
              have done : ∀ Z, (∀ q, q ≠ tb θ + 126 → Z q = Y q) → (∀ j, j ≠ 68 → Z (tb θ + 126) j = mS θ Y t (tb θ + 126) j) → Z (tb θ + 126) 68 = smpN (V (tb θ + 126) 68) x3 (nI sz) (V (tb θ + 126) 38) (V (tb θ + 126) 37) → K 1 Z U := by
                intro Z z1 z2 z3
                refine h1 hno Z sz hsz ⟨fun q a b => by rw [z1 q a, y1 q a b, f1 q a], fun j a1 a2 a3 a4 a5 a6 a7 a8 a9 => by rw [z2 j a9, mS_j a1 a2, y2 j a8 a7, f2 j a3 a4 a5 a6]⟩ ?_ ?_ ?_ ?_ ?_ z3 (fun ch hch => by rw [z1 _ (by omega)]; exact y4 ch hch) (fun ch x a b => by rw [z1 _ (by omega), z1 _ (by omega)]; exact y5 ch x a b)
                · rw [z2 54 (by decide), mS_j (by decide) (by decide), y2 54 (by decide) (by decide)]; exact f54
                · rw [z2 55 (by decide), mS_j (by decide) (by decide), y2 55 (by decide) (by decide)]; exact f55
                · rw [z2 56 (by decide), mS_j (by decide) (by decide), y2 56 (by decide) (by decide)]; exact f56
                · rw [z2 57 (by decide), mS_j (by decide) (by decide)]; exact Y57
                · rw [z2 58 (by decide), mS_j (by decide) (by decide)]; exact y3
              unfold wb_M_sound_248
              simp only [IM hθ, true_and]
              intro V68 h68
              rw [mS_upj (by decide) (by decide), hz] at h68
              subst h68
              rw [e126 _ _ 38 (V (tb θ + 126) 38) (by rw [up2_ab (by decide)]; exact Y38) (by decide) (by decide), e126 _ _ 37 (V (tb θ + 126) 37) (by rw [up2_ab (by decide)]; exact Y37) (by decide) (by decide), e126 _ _ 68 _ up2_aa (by decide) (by decide)]
              have dn : ∀ n : Int32, n = smpN (V (tb θ + 126) 68) x3 (nI sz) (V (tb θ + 126) 38) (V (tb θ + 126) 37) → K 1 (mS θ (up2 Y (tb θ + 126) 68 n) t) U := by
                intro n hn
                refine done _ (fun q hq => by rw [mS_ne hq, up2_ne hq]) (fun j hj => ?_) ?_
                · by_cases j39 : j = 39
                  · subst j39; rw [mS_39, mS_39]
                  · by_cases j40 : j = 40
                    · subst j40; rw [mS_40, mS_40]
                    · rw [mS_j j39 j40, mS_j j39 j40, up2_ab hj]
                · rw [mS_j (by decide) (by decide), up2_aa]; exact hn
              refine ⟨fun q => dn _ ?_, fun q => ⟨fun q2 => dn _ ?_, fun q2 => ⟨fun q3 => dn _ ?_, fun q3 V73 h73 => ?_⟩⟩⟩
              · unfold smpN; rw [if_pos q]
              · unfold smpN; rw [if_neg q, if_pos q2]
              · unfold smpN; rw [if_neg q, if_neg q2, if_pos q3]
              · rw [mS_upj (by decide) (by decide), up2_up2] at h73
                rw [h73]
                refine dn _ ?_
                unfold smpN; rw [if_neg q, if_neg q2, if_neg q3]
            unfold wb_M_sound_225
            simp only [IM hθ, true_and]
            rw [e126 Y _ 68 _ Y68 (by decide) (by decide), e126 Y _ 57 _ Y57 (by decide) (by decide)]
            refine ⟨fun q => cnt 0 _ ?_, fun q => ⟨by decide, cnt _ _ ?_⟩⟩
            · rw [if_pos q]; exact Int32.add_zero _
            · rw [if_neg q]
          -- channels
          have chans : ∀ X, (∀ q, q ≠ tb θ + 126 → (q < tb θ + 158 ∨ tb θ + 165 < q) → X q = W0 q) → (∀ j, j ≠ 65 → X (tb θ + 126) j = W0 (tb θ + 126) j) → X (tb θ + 158) 1 = 0 → (∀ j, j < 64 → X (tb θ + 159) j = 0 ∧ X (tb θ + 160) j = 0) → ∃ n, wl_M_sound_143 θ (tb θ + 126) x3 K n (0 : Int32) (mS θ X (sd2 p s)) U := by
            intro X x1 x2 x31 x4
            refine loop1 c (fun k V1 => ∃ W, V1 = mS θ W (sdS p bk cd s k) ∧ (∀ q, q ≠ tb θ + 126 → (q < tb θ + 158 ∨ tb θ + 165 < q) → W q = W0 q) ∧ (∀ j, j ≠ 65 → W (tb θ + 126) j = W0 (tb θ + 126) j) ∧ (∀ ch, ch < k → W (tb θ + 158) ch = bZ (sdU p bk cd s c ch)) ∧ (k ≤ 1 → W (tb θ + 158) 1 = 0) ∧ (∀ ch x, ch < k → x < sz / 2 → W (tb θ + 159) (32 * ch + x) = sdC p bk cd s c ch x) ∧ (∀ j, 32 * k ≤ j → j < 64 → W (tb θ + 159) j = 0) ∧ (∀ j, j < 64 → W (tb θ + 160) j = 0)) ⟨X, rfl, x1, x2, fun ch hch => (by omega), fun _ => x31, fun ch x hch => (by omega), fun j _ hj => (x4 j hj).1, fun j hj => (x4 j hj).2⟩ (fun f k V1 hk hJ hgo => ?_) (fun f V1 hJ => ?_)
            · obtain ⟨W, rfl, w1, w2, w3, w4, w5, w6, w7⟩ := hJ
              obtain ⟨hpW, hcW, hvW, hbW, hW41, hW53, hW57⟩ := frm W w1 w2
              have hus : sdU p bk cd s c k = crU p bk cd (sdS p bk cd s k) := by unfold sdU; simp [hk]
              show bl_M_sound_143 _ _ _ _ _ _ _ _
              unfold bl_M_sound_143
              simp only [UM hU, IM hθ, true_and, exists_eq_left]
              rw [e126 W _ 41 _ hW41 (by decide) (by decide)]
              refine br_f (nI_ge hk (by omega)) ⟨by omega, m_curve (bk := bk) (cd := cd) (B := B) (ch := k) (sz := sz) hθ hU hla hW53 hpW (sdS_ok hs k) hB hcp hcW hbW (by omega) (by omega) hW57 (fun Z z1 z2 z3 => ⟨vp_in_nI (by omega) (by decide), bZ_Z _, fun V62 h62 y hy => ?_⟩)⟩
              rw [nI_clamp (by omega), mS_up (by omega)] at h62
              rw [h62, hy, nI_1]
              refine hgo _ ⟨_, rfl, fun q a b => ?_, fun j hj => ?_, fun ch hch => ?_, fun hk1 => ?_, fun ch x hch hx => ?_, fun j j1 j2 => ?_, fun j hj => ?_⟩
              · rw [up2_ne (by omega), z1 q (by omega) (by omega) (by omega) (by omega)]; exact w1 q a b
              · rw [up2_ne (by omega), z1 _ (by omega) (by omega) (by omega) (by omega)]; exact w2 j hj
              · by_cases e : ch = k
                · subst e; rw [up2_aa, hus]
                · rw [up2_ab e, z1 _ (by omega) (by omega) (by omega) (by omega)]; exact w3 ch (by omega)
              · rw [up2_ab (by omega), z1 _ (by omega) (by omega) (by omega) (by omega)]; exact w4 (by omega)
              · rw [up2_ne (by omega)]
                by_cases e : ch = k
                · subst e
                  unfold sdC
                  rw [hus]
                  cases hcu : crU p bk cd (sdS p bk cd s ch)
                  · rw [z3 _ (Or.inl hcu), w6 _ (by omega) (by omega)]; rfl
                  · rw [z2 hcu x hx]; rfl
                · rw [z3 _ (Or.inr (by omega))]; exact w5 ch x (by omega) hx
              · rw [up2_ne (by omega), z3 _ (Or.inr (by omega))]; exact w6 j (by omega) j2
              · rw [up2_ne (by omega), z1 _ (by omega) (by omega) (by omega) (by omega)]; exact w7 j hj
            · obtain ⟨W, rfl, w1, w2, w3, w4, w5, w6, w7⟩ := hJ
              obtain ⟨hpW, hcW, hvW, hbW, hW41, hW53, hW57⟩ := frm W w1 w2
              have hus1 : c = 1 → sdU p bk cd s c 1 = false := by intro e; unfold sdU; simp [e]
              have h158 : ∀ ch, ch < 2 → W (tb θ + 158) ch = bZ (sdU p bk cd s c ch) := by
                intro ch hch
                by_cases e : ch < c
                · exact w3 ch e
                · have e1 : ch = 1 := by omega
                  have ec : c = 1 := by omega
                  rw [e1, w4 (by omega), hus1 ec]; rfl
              show bl_M_sound_143 _ _ _ _ _ _ _ _
              unfold bl_M_sound_143
              simp only [IM hθ, true_and]
              rw [e126 W _ 41 _ hW41 (by decide) (by decide)]
              refine br_t (nI_le (Nat.le_refl _) (by omega)) (m_vals (bk := bk) (v := vd) (us := sdU p bk cd s c) (sz := sz) (w := sz / 2) hθ hU hla hW53 hW41 hpW (sdS_ok hs c) hB hc hc0 hvp hvW hbW h158 hus1 hW57 (by omega) hw (vv := fun _ _ => 0) (fun ch x a b => w7 _ (by omega)) (fun Y y1 y2 y3 => ?_))
              have y3' : VVm θ Y c (sdV p bk cd vd s c (sz / 2)).vv := y3
              show isZ (mS θ Y (sdV p bk cd vd s c (sz / 2)).s (tb θ + 126) 40) ∧ _
              rw [mS_40]
              refine ⟨bZ_Z _, fun V48 h48 => ?_⟩
              rw [mS_upj (by decide) (by decide), mS_40] at h48
              have h48' : V48 = mS θ (up2 Y (tb θ + 126) 58 (bZ (sdV p bk cd vd s c (sz / 2)).s.2)) (sdV p bk cd vd s c (sz / 2)).s := h48
              clear h48
              subst h48'
              simp only [UM hU, IM hθ, true_and, exists_eq_left]
              have g1 : ∀ q, q ≠ tb θ + 126 → (q < tb θ + 158 ∨ tb θ + 165 < q) → up2 Y (tb θ + 126) 58 (bZ (sdV p bk cd vd s c (sz / 2)).s.2) q = W0 q := fun q a b => by rw [up2_ne a, y1 q a (by omega) (by omega) (by omega)]; exact w1 q a b
              have g2 : ∀ j, j ≠ 65 → j ≠ 58 → up2 Y (tb θ + 126) 58 (bZ (sdV p bk cd vd s c (sz / 2)).s.2) (tb θ + 126) j = W0 (tb θ + 126) j := fun j a b => by rw [up2_ab b, y2 j a]; exact w2 j a
              have g3 : up2 Y (tb θ + 126) 58 (bZ (sdV p bk cd vd s c (sz / 2)).s.2) (tb θ + 126) 58 = bZ (sdV p bk cd vd s c (sz / 2)).s.2 := up2_aa
              have g4 : ∀ ch, ch < 2 → up2 Y (tb θ + 126) 58 (bZ (sdV p bk cd vd s c (sz / 2)).s.2) (tb θ + 158) ch = bZ (sdU p bk cd s c ch) := fun ch hch => by rw [up2_ne (by omega), y1 _ (by omega) (by omega) (by omega) (by omega)]; exact h158 ch hch
              have g5 : ∀ ch x, ch < c → x < sz / 2 → up2 Y (tb θ + 126) 58 (bZ (sdV p bk cd vd s c (sz / 2)).s.2) (tb θ + 159) (32 * ch + x) = sdC p bk cd s c ch x := fun ch x a b => by rw [up2_ne (by omega), y1 _ (by omega) (by omega) (by omega) (by omega)]; exact w5 ch x a b
              have g6 : ∀ ch x, ch < c → x < 32 → up2 Y (tb θ + 126) 58 (bZ (sdV p bk cd vd s c (sz / 2)).s.2) (tb θ + 160) (32 * ch + x) = (sdV p bk cd vd s c (sz / 2)).vv ch x := fun ch x a b => by rw [up2_ne (by omega)]; exact y3' ch x a b
              generalize up2 Y (tb θ + 126) 58 (bZ (sdV p bk cd vd s c (sz / 2)).s.2) = Z at g1 g2 g3 g4 g5 g6 ⊢
              have Z53 : Z (tb θ + 126) 53 = nI la := by rw [g2 53 (by decide) (by decide), f2 53 (by decide) (by decide) (by decide) (by decide)]; exact h53
              have Z57 : Z (tb θ + 126) 57 = nI sz := by rw [g2 57 (by decide) (by decide)]; exact f57
              have Z157 : Z (tb θ + 157) (la + 40) = bZ vd.jo := by rw [g1 _ (by omega) (by omega), f1 _ (by omega)]; exact hvm.2.2.2.2.2.2.2
              rw [e126 Z _ 53 _ Z53 (by decide) (by decide), i40, nI_clamp (show la + 40 < 2 ^ 31 by omega), mS_ne (show tb θ + 157 ≠ tb θ + 126 by omega), Z157]
              refine ⟨by omega, vp_in_nI (by omega) (by decide), fun q => last Z _ g1 g2 g3 g4 (fun ch x a b => ⟨g5 ch x a b, ?_⟩), fun q => ?_⟩
              · have hj : vd.jo = false := by
                  cases e : vd.jo
                  · rfl
                  · rw [e] at q; exact absurd rfl q
                unfold sdF; rw [hj]
                exact g6 ch x a (by omega)
              · have hj : vd.jo = true := bZ_1.1 q
                have hc2 : c = 2 := hvp.2.2.2.2.2.2.2.2.2 hj
                refine loop1 (sz / 2) (fun x V1 => ∃ T, V1 = mS θ T (sdV p bk cd vd s c (sz / 2)).s ∧ (∀ a, a ≠ tb θ + 160 → T a = Z a) ∧ (∀ j, j < x → T (tb θ + 160) j = jn0 (Z (tb θ + 160) j) (Z (tb θ + 160) (32 + j)) ∧ T (tb θ + 160) (32 + j) = jn1 (Z (tb θ + 160) j) (Z (tb θ + 160) (32 + j))) ∧ (∀ j, x ≤ j → j < 32 → T (tb θ + 160) j = Z (tb θ + 160) j ∧ T (tb θ + 160) (32 + j) = Z (tb θ + 160) (32 + j))) ⟨Z, rfl, fun _ _ => rfl, fun j hj => (by omega), fun _ _ _ => ⟨rfl, rfl⟩⟩ (fun f2 x V1 hx hJ hgo => ?_) (fun f2 V1 hJ => ?_)
                · obtain ⟨T, rfl, t1, t2, t3⟩ := hJ
                  have T57 : T (tb θ + 126) 57 = nI sz := by rw [t1 _ (by omega)]; exact Z57
                  show bl_M_sound_202 _ _ _ _ _ _ _ _
                  unfold bl_M_sound_202
                  simp only [IM hθ, true_and]
                  rw [e126 T _ 57 _ T57 (by decide) (by decide), show (2 : Int32) = nI 2 from rfl, pk_div (by omega) (by decide) (by decide)]
                  refine ⟨by decide, br_f (nI_ge hx (by omega)) (m_join hθ hU (by omega) (fun R r1 r2 r3 r4 y hy => ?_))⟩
                  have eR : R = mS θ (up2 (up2 R (tb θ + 126) 39 (T (tb θ + 126) 39)) (tb θ + 126) 40 (T (tb θ + 126) 40)) (sdV p bk cd vd s c (sz / 2)).s := by
                    have h126 : R (tb θ + 126) = mS θ T (sdV p bk cd vd s c (sz / 2)).s (tb θ + 126) := r1 _ (by omega)
                    funext q j
                    by_cases hq : q = tb θ + 126
                    · subst hq
                      by_cases h6 : j = 40
                      · subst h6; rw [mS_40, h126, mS_40]
                      · by_cases h5 : j = 39
                        · subst h5; rw [mS_39, h126, mS_39]
                        · rw [mS_j h5 h6, up2_ab h6, up2_ab h5]
                    · rw [mS_ne hq, up2_ne hq, up2_ne hq]
                  have mT : ∀ j, mS θ T (sdV p bk cd vd s c (sz / 2)).s (tb θ + 160) j = T (tb θ + 160) j := fun j => by rw [mS_ne (by omega)]
                  rw [mT, mT] at r3 r4
                  obtain ⟨o1, o2⟩ := t3 x (Nat.le_refl _) (by omega)
                  rw [o1, o2] at r3 r4
                  rw [hy, nI_1, eR]
                  refine hgo _ ⟨_, rfl, fun a ha => ?_, fun j hj => ?_, fun j j1 j2 => ?_⟩
                  · by_cases hq : a = tb θ + 126
                    · subst hq
                      have h126 : R (tb θ + 126) = mS θ T (sdV p bk cd vd s c (sz / 2)).s (tb θ + 126) := r1 _ (by omega)
                      funext j
                      rw [← t1 (tb θ + 126) (by omega)]
                      by_cases h6 : j = 40
                      · subst h6; rw [up2_aa]
                      · by_cases h5 : j = 39
                        · subst h5; rw [up2_ab (by decide), up2_aa]
                        · rw [up2_ab h6, up2_ab h5, h126, mS_j h5 h6]
                    · rw [up2_ne hq, up2_ne hq, r1 a ha, mS_ne hq]; exact t1 a ha
                  · rw [up2_ne (by omega), up2_ne (by omega)]
                    by_cases e : j = x
                    · subst e; exact ⟨r3, r4⟩
                    · rw [r2 j (by omega) (by omega), r2 (32 + j) (by omega) (by omega), mT, mT]; exact t2 j (by omega)
                  · rw [up2_ne (by omega), up2_ne (by omega), r2 j (by omega) (by omega), r2 (32 + j) (by omega) (by omega), mT, mT]; exact t3 j (by omega) j2
                · obtain ⟨T, rfl, t1, t2, t3⟩ := hJ
                  have T57 : T (tb θ + 126) 57 = nI sz := by rw [t1 _ (by omega)]; exact Z57
                  show bl_M_sound_202 _ _ _ _ _ _ _ _
                  unfold bl_M_sound_202
                  simp only [IM hθ, true_and]
                  rw [e126 T _ 57 _ T57 (by decide) (by decide), show (2 : Int32) = nI 2 from rfl, pk_div (by omega) (by decide) (by decide)]
                  refine ⟨by decide, br_t (nI_le (Nat.le_refl _) (by omega)) (last T _ (fun q a b => by rw [t1 q (by omega)]; exact g1 q a b) (fun j a b => by rw [t1 _ (by omega)]; exact g2 j a b) (by rw [t1 _ (by omega)]; exact g3) (fun ch hch => by rw [t1 _ (by omega)]; exact g4 ch hch) (fun ch x a b => ⟨by rw [t1 _ (by omega)]; exact g5 ch x a b, ?_⟩))⟩
                  obtain ⟨o1, o2⟩ := t2 x b
                  have a0 : Z (tb θ + 160) x = (sdV p bk cd vd s c (sz / 2)).vv 0 x := by have := g6 0 x (by omega) (by omega); rw [Nat.mul_zero, Nat.zero_add] at this; exact this
                  have a1 : Z (tb θ + 160) (32 + x) = (sdV p bk cd vd s c (sz / 2)).vv 1 x := by have := g6 1 x (by omega) (by omega); rw [Nat.mul_one] at this; exact this
                  rw [a0, a1] at o1 o2
                  unfold sdF jnV
                  rw [if_pos hj]
                  have : ch = 0 ∨ ch = 1 := by omega
                  rcases this with rfl | rfl
                  · rw [if_pos rfl, Nat.mul_zero, Nat.zero_add]; exact o1
                  · rw [if_neg (by decide), Nat.mul_one]; exact o2
          -- all is set to nothing first
          refine loop1 64 (fun j V1 => ∃ W, V1 = mS θ W (sd2 p s) ∧ (∀ q, q ≠ tb θ + 159 → q ≠ tb θ + 160 → W q = W0 q) ∧ ∀ i, i < j → W (tb θ + 159) i = 0 ∧ W (tb θ + 160) i = 0) ⟨W0, rfl, fun _ _ _ => rfl, fun i hi => (by omega)⟩ (fun f j V1 hj hJ hgo => ?_) (fun f V1 hJ => ?_)
          · obtain ⟨W, rfl, w1, w2⟩ := hJ
            show bl_M_sound_104 _ _ _ _ _ _ _ _
            unfold bl_M_sound_104
            simp only [UM hU, IM hθ, true_and, exists_eq_left]
            refine br_f (nI_ge (b := 64) hj (by decide)) ⟨by omega, vp_in_nI (by omega) (by decide), fun V36 h36 => ⟨by omega, vp_in_nI (by omega) (by decide), fun V41 h41' y hy => ?_⟩⟩
            rw [nI_clamp (by omega), mS_up (by omega)] at h36
            rw [h36, nI_clamp (by omega), mS_up (by omega)] at h41'
            rw [h41', hy, nI_1]
            refine hgo _ ⟨_, rfl, fun q a b => by rw [up2_ne b, up2_ne a]; exact w1 q a b, fun i hi => ?_⟩
            by_cases e : i = j
            · subst e; rw [up2_ne (show tb θ + 159 ≠ tb θ + 160 by omega), up2_aa, up2_aa]; exact ⟨rfl, rfl⟩
            · rw [up2_ne (show tb θ + 159 ≠ tb θ + 160 by omega), up2_ab e, up2_ab e, up2_ne (show tb θ + 160 ≠ tb θ + 159 by omega)]; exact w2 i (by omega)
          · obtain ⟨W, rfl, w1, w2⟩ := hJ
            show bl_M_sound_104 _ _ _ _ _ _ _ _
            unfold bl_M_sound_104
            simp only [UM hU, IM hθ, true_and, exists_eq_left]
            refine br_t (by decide) ⟨by omega, vp_in_nI (n := 1) (by decide) (by decide), fun V30 h30 => ?_⟩
            rw [show ((1 : Int32).toNatClampNeg) = 1 from rfl, mS_up (by omega)] at h30
            rw [h30]
            refine chans _ (fun q a b => by rw [up2_ne (by omega)]; exact w1 q (by omega) (by omega)) (fun j hj => by rw [up2_ne (by omega), w1 _ (by omega) (by omega)]) up2_aa (fun j hj => by rw [up2_ne (by omega), up2_ne (by omega)]; exact w2 j hj)
        refine ⟨fun q2 => rest sS ?_, fun q2 => rest sL ?_⟩
        · rw [bZ_0.1 q2]; rfl
        · cases e : spB p s
          · rw [e] at q2; exact absurd rfl q2
          · rfl
      unfold wb_M_sound_54
      simp only [IM hθ, true_and]
      intro V14 h14
      rw [mS_upj (by decide) (by decide)] at h14
      subst h14
      cases e : spB p s
      · rw [e] at body hx1
        exact ⟨fun _ => body, fun w => absurd (hx1.symm.trans w) (by decide)⟩
      · rw [e] at body hx1
        exact ⟨fun w => absurd hx1 w, fun _ => body⟩
    refine ⟨fun q2 => go 0 (by rw [hbf, if_pos q2]), fun q2 => go _ (by rw [hbf, if_neg q2])⟩
  unfold wp_M_sound
  simp only [IM hθ, true_and]
  rw [e126 V _ 53 _ h53 (by decide) (by decide)]
  refine br_t (nI_pos' (by omega)) (m_read hθ hU hp hs (k := 1) (by decide) ?_)
  rcases rdV1 p s with z | z
  · have hsp : spB p s = false := by simp [spB, z]
    unfold sd2 sdW at main
    rw [hsp] at main
    rw [z]
    exact ⟨fun _ => main (nI 0) rfl, fun q => absurd q (by decide)⟩
  · have hsp : spB p s = true := by simp [spB, z]
    unfold sd2 sdW at main
    rw [hsp] at main
    rw [z]
    exact ⟨fun q => absurd rfl q, fun _ => m_read hθ hU hp (rdS_ok 1 hs) (k := 2) (by decide) (main (nI 1) rfl)⟩
end MSOUND
