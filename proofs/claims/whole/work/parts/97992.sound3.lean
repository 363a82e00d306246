-- a block of sound is taken
section DSOUND
variable {θ : TH} {V : VT} {U : UT} {sw : Bool} {p : PK} {c s L B : Nat} {bk : Nat → BD} {t : RS}
theorem mrk_nI (a u0 u1 o : Bool) (w : Nat) (hw : w < 4) (ha : a = false → w = 0) : nI (((if a = true then 1 + 2 * w else 0) + 8 * ((if u0 = true then 1 else 0) + (if u1 = true then 2 else 0))) + (if o = true then 32 else 0)) = ((((if bZ a = 0 then (0 : Int32) else 1) + (2 : Int32) * nI w) + (if bZ u0 = 0 then 0 else 8)) + (if bZ u1 = 0 then 0 else 16)) + (if bZ o = 0 then 0 else 32) := by
  have : w = 0 ∨ w = 1 ∨ w = 2 ∨ w = 3 := by omega
  rcases this with rfl | rfl | rfl | rfl <;> cases a <;> first | (exact absurd (ha rfl) (by decide)) | (cases u0 <;> cases u1 <;> cases o <;> decide)
set_option maxHeartbeats 4000000 in
theorem dec_sound (hθ : OKt θ) (hU : US θ sw U) (hp : HP θ V p) (hm : MP θ V p) (ht : t.1 ≤ 8 * p.L) (hD : DCX θ V sw c s L B bk) (h38 : V (tb θ + 25) 4 = V (tb θ + 126) 38) (h37 : V (tb θ + 25) 3 = V (tb θ + 126) 37) : DEC θ V U t (wp_D_decodeSound θ (tb θ + 66)) (wp_M_sound θ (tb θ + 126)) := by
  intro Kc hk
  have hD' := hD
  have hco := cpA_or sw
  have hvo := vpA_or sw
  obtain ⟨g1, g2, g3, g4, g5, g6, g7, g8, g9, g10, g11, g12, g13, g14, g15⟩ := hD
  have hcf2 : CF θ V (cS θ V (sd2 p t)) := ⟨fun q a _ => cS_ne a, fun j a b => cS_j a b⟩
  have same : ∀ u, DCR θ (mS θ (up2 (cS θ V (sd2 p t)) (tb θ + 126) 34 0) u) sw := fun u => DCR_of (hD'.keep (fun j => by rw [mS_ne (by omega), up2_ne (by omega), cS_ne (by omega)]) (fun j hj => by rw [mS_j (by omega) (by omega)]; exact hcf2.j (by omega)) (fun k _ => ⟨by rw [mS_ne (by omega), up2_ne (by omega), cS_ne (by omega)], by rw [mS_ne (by omega), up2_ne (by omega), cS_ne (by omega)], by rw [mS_ne (by omega), up2_ne (by omega), cS_ne (by omega)]⟩) (fun k b _ _ hb => hb.eq (fun a _ _ => by rw [mS_ne (by omega)]; exact hcf2.m (by omega))) (fun a _ _ => by rw [mS_ne (by omega), up2_ne (by omega), cS_ne (by omega)]) (fun a _ _ => by rw [mS_ne (by omega)]; exact hcf2.m (by omega)) (fun a _ _ => by rw [mS_ne (by omega), up2_ne (by omega), cS_ne (by omega)]) (fun j _ => by rw [mS_ne (by omega), up2_ne (by omega), cS_ne (by omega)]) (by rw [mS_ne (by omega), up2_ne (by omega), cS_ne (by omega)]) (fun la _ _ j _ _ => by rw [mS_ne (by omega), hcf2.m (by omega)]))
  have sameF : ∀ u, MF θ (up2 (cS θ V (sd2 p t)) (tb θ + 126) 34 0) (mS θ (up2 (cS θ V (sd2 p t)) (tb θ + 126) 34 0) u) := fun u => ⟨fun q hq => by rw [mS_ne (by omega)], fun j hj => by rw [mS_j (by omega) (by omega)]⟩
  rcases g15 with ⟨a, b⟩ | ⟨a, hc0, la, cd, vd, y1, y2, y3, y4, y5, y6, y7, y8⟩
  · refine s_soundH hθ hU hp ht (fun z _ => ?_)
    unfold wb_D_decodeSound_26
    simp only [dcU hθ hU, true_and]
    rw [cS_ne (show tb θ + 66 ≠ tb θ + 25 by omega)]
    refine ⟨fun _ => ?_, fun z2 => absurd a z2⟩
    refine hk false _ _ hcf2 ⟨sw, hU⟩ (fun Kf hf => ?_)
    unfold wp_M_sound
    simp only [IM hθ, true_and]
    rw [mS_j (by decide) (by decide), hcf2.j (by decide), b]
    exact ⟨fun z => absurd z (by decide), fun _ => hf _ U sw hU (same t) (sameF t)⟩
  · have hs1 := g4 hc0
    have model : ∀ V1 : VT, CF θ V V1 → ∀ Kf : Int32 → VT → UT → Prop, ((sd2 p t).2 = true → Kf 0 (mS θ (up2 V1 (tb θ + 126) 34 0) (sd2 p t)) U) → ((sd2 p t).2 = false → ∀ X sz, sz = (if spB p t = true then L else s) → FRq θ (up2 V1 (tb θ + 126) 34 0) X → X (tb θ + 126) 54 = 1 → X (tb θ + 126) 55 = bZ (spB p t) → X (tb θ + 126) 56 = nI (sdW p t) → X (tb θ + 126) 57 = nI sz → X (tb θ + 126) 58 = bZ (sdV p bk cd vd t c (sz / 2)).s.2 → X (tb θ + 126) 68 = smpN (V (tb θ + 126) 68) (V (tb θ + 66) 11) (nI sz) (V (tb θ + 126) 38) (V (tb θ + 126) 37) → (∀ ch, ch < 2 → X (tb θ + 158) ch = bZ (sdU p bk cd t c ch)) → (∀ ch x, ch < c → x < sz / 2 → X (tb θ + 159) (32 * ch + x) = sdC p bk cd t c ch x ∧ X (tb θ + 160) (32 * ch + x) = sdF p bk cd vd t c (sz / 2) ch x) → Kf 1 X U) → wp_M_sound θ (tb θ + 126) (mS θ (up2 V1 (tb θ + 126) 34 0) t) U Kf := by
      intro V1 hcf Kf h0 h1
      refine m_sound (la := la) (sS := s) (sL := L) (cd := cd) (vd := vd) (B := B) (c := c) (bk := bk) (bf := V (tb θ + 66) 11) hθ hU (by omega) (by rw [hcf.j (by decide)]; exact y2) (hcf.mp hm) ht g10 g1 hc0 (by rw [hcf.j (by decide)]; exact g3) (by rw [hcf.j (by decide)]; exact g6) (by rw [hcf.j (by decide)]; exact g8) ⟨hs1.1, hs1.2.1, hs1.2.2.1⟩ ⟨hs1.2.2.2.1, hs1.2.2.2.2.1, hs1.2.2.2.2.2⟩ y3 (y5.eq (hcf.m (by omega))) y6 (y8.eq (hcf.m (by omega))) (fun k hk => ⟨(g13 k hk).1, (g13 k hk).2.2.eq (fun a _ _ => hcf.m (by omega))⟩) ?_ h0 (fun e X sz z1 z2 z3 z4 z5 z6 z7 z8 z9 z10 => h1 e X sz z1 z2 z3 z4 z5 z6 z7 ?_ z9 z10)
      · rw [hcf.j (by decide), hcf.j (by decide)]
        rcases g14 with ⟨a, b⟩ | ⟨a, sz, b1, b2, b3, b4, b5, b6⟩
        · rw [a, b]; exact (if_pos rfl).symm
        · rw [a, b3, b4]; exact (if_neg (by decide)).symm
      · rw [hcf.j (by decide), hcf.j (by decide), hcf.j (by decide)] at z8
        exact z8
    refine s_sound (sS := s) (sL := L) (cd := cd) (vd := vd) (B := B) (c := c) (bk := bk) hθ hU hp ht g10 g1 hc0 g2 g5 g7 a ⟨hs1.1, hs1.2.1⟩ ⟨hs1.2.2.2.1, hs1.2.2.2.2.1⟩ y3 y4 y6 y7 (fun k hk => ⟨(g13 k hk).1, (g13 k hk).2.1⟩) (fun h0 => ?_) (fun h0 W sz hsz hF w11 w12 w15 wA => ?_)
    · exact hk false _ _ hcf2 ⟨sw, hU⟩ (fun Kf hf => model _ hcf2 Kf (fun _ => hf _ U sw hU (same _) (sameF _)) (fun e => by rw [h0] at e; cases e))
    · have hcf : CF θ V W := ⟨fun q a1 a2 => hF.1 q a1 (by omega) (by omega) (by omega) (by omega) (by omega) (by omega) (by omega) (by omega) (by omega) (by omega) (by omega) (by omega), fun j a1 a2 => hF.2.2.1 j a1 a2⟩
      refine hk true _ _ hcf ⟨sw, hU⟩ (fun Kf hf => model _ hcf Kf (fun e => by rw [h0] at e; cases e) (fun _ X sz2 hsz2 x1 x54 x55 x56 x57 x58 x68 x158 xA => ?_))
      have esz : sz2 = sz := hsz2.trans hsz.symm
      subst esz
      have hz : 0 < sz2 ∧ sz2 ≤ 64 := by
        rw [hsz]; split <;> omega
      have XW : ∀ a, a < 126 → X (tb θ + a) = W (tb θ + a) := fun a ha => by rw [x1.1 _ (by omega) (by omega), up2_ne (by omega)]
      have XM : ∀ a, 127 ≤ a → a < 158 → X (tb θ + a) = V (tb θ + a) := fun a ha ha2 => by rw [x1.1 _ (by omega) (by omega)]; exact hcf.m (by omega)
      have Xj : ∀ j, j ≠ 34 → j ≠ 39 → j ≠ 40 → j ≠ 54 → j ≠ 55 → j ≠ 56 → j ≠ 57 → j ≠ 58 → j ≠ 65 → j ≠ 68 → X (tb θ + 126) j = V (tb θ + 126) j := fun j a0 a1 a2 a3 a4 a5 a6 a7 a8 a9 => by rw [x1.2 j a1 a2 a3 a4 a5 a6 a7 a8 a9]; exact hcf.j a0
      have WV' : ∀ a, a < 126 → a ≠ 25 → a ≠ 66 → a ≠ cpA sw + 7 → a ≠ cpA sw + 8 → a ≠ cpA sw + 9 → a ≠ vpA sw → a ≠ vpA sw + 2 → a ≠ vpA sw + 4 → a ≠ vpA sw + 5 → a ≠ 101 → a ≠ 102 → a ≠ 104 → a ≠ 105 → X (tb θ + a) = V (tb θ + a) := fun a a0 a1 a2 a3 a4 a5 a6 a7 a8 a9 b1 b2 b3 b4 => by rw [XW a a0]; exact hF.1 _ (by omega) (by omega) (by omega) (by omega) (by omega) (by omega) (by omega) (by omega) (by omega) (by omega) (by omega) (by omega) (by omega)
      have X66 : ∀ j, j ≠ 11 → j ≠ 12 → j ≠ 15 → X (tb θ + 66) j = V (tb θ + 66) j := fun j a1 a2 a3 => by rw [XW 66 (by decide)]; exact hF.2.1 j a1 a2 a3
      have X53 := Xj 53 (by decide) (by decide) (by decide) (by decide) (by decide) (by decide) (by decide) (by decide) (by decide) (by decide)
      have X41 := Xj 41 (by decide) (by decide) (by decide) (by decide) (by decide) (by decide) (by decide) (by decide) (by decide) (by decide)
      have X42 := Xj 42 (by decide) (by decide) (by decide) (by decide) (by decide) (by decide) (by decide) (by decide) (by decide) (by decide)
      have X43 := Xj 43 (by decide) (by decide) (by decide) (by decide) (by decide) (by decide) (by decide) (by decide) (by decide) (by decide)
      have X44 := Xj 44 (by decide) (by decide) (by decide) (by decide) (by decide) (by decide) (by decide) (by decide) (by decide) (by decide)
      have Bk : ∀ a, 106 ≤ a → a < 126 → X (tb θ + a) = V (tb θ + a) := fun a a1 a2 => WV' a a2 (by omega) (by omega) (by omega) (by omega) (by omega) (by omega) (by omega) (by omega) (by omega) (by omega) (by omega) (by omega) (by omega)
      refine hf X U sw hU (DCR_of (c := c) (s := s) (L := L) (B := B) (bk := bk) ⟨g1, by rw [X66 3 (by decide) (by decide) (by decide)]; exact g2, by rw [X41]; exact g3, g4, by rw [X66 4 (by decide) (by decide) (by decide)]; exact g5, by rw [X42]; exact g6, by rw [X66 5 (by decide) (by decide) (by decide)]; exact g7, by rw [X43]; exact g8, by rw [XW 66 (by decide), w15, x68, h38, h37, g9], g10, by rw [X66 2 (by decide) (by decide) (by decide)]; exact g11, by rw [X44]; exact g12, fun k hk => ?_, Or.inr ⟨x54, sz2, hz.1, hz.2, by rw [XW 66 (by decide)]; exact w11, x57, ?_, fun ch x hc hx => ?_⟩, Or.inr ⟨by rw [X66 6 (by decide) (by decide) (by decide)]; exact a, hc0, la, cd, vd, y1, by rw [X53]; exact y2, y3, y4.eq (fun a a1 a2 => ?_), y5.eq (XM 157 (by decide) (by decide)), y6, y7.eq (fun j hj => ?_) ?_, y8.eq (XM 157 (by decide) (by decide))⟩⟩) ⟨fun q hq => x1.1 q (by omega) (by omega), fun j hj => x1.2 j (by omega) (by omega) (by omega) (by omega) (by omega) (by omega) (by omega) (by omega) (by omega)⟩
      · obtain ⟨b1, b2, b3⟩ := g13 k hk
        exact ⟨b1, b2.eq (Bk _ (by omega) (by omega)) (Bk _ (by omega) (by omega)) (Bk _ (by omega) (by omega)), b3.eq (fun a a1 a2 => XM a (by omega) (by omega))⟩
      · unfold mrk
        rw [XW 66 (by decide), w12, x55, x56, x58, x158 0 (by decide), x158 1 (by decide)]
        unfold sdM unN
        refine mrk_nI _ _ _ _ _ ?_ ?_
        · have := rdV_lt p 2 (rdS p 1 t)
          unfold sdW; split <;> omega
        · intro e; unfold sdW; rw [e]; rfl
      · rw [XW (101 + ch) (by omega), XW (104 + ch) (by omega)]
        have q1 := wA ch x hc hx
        have q2 := xA ch x hc hx
        exact ⟨q1.1.trans q2.1.symm, q1.2.trans q2.2.symm⟩
      · exact WV' a (by omega) (by omega) (by omega) (by omega) (by omega) (by omega) (by omega) (by omega) (by omega) (by omega) (by omega) (by omega) (by omega) (by omega)
      · rw [XW _ (by omega)]; exact hF.2.2.2 j (by omega)
      · exact WV' _ (by omega) (by omega) (by omega) (by omega) (by omega) (by omega) (by omega) (by omega) (by omega) (by omega) (by omega) (by omega) (by omega) (by omega)
end DSOUND
