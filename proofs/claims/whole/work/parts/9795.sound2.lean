-- a block of sound, one side: all
def unK (us : Nat → Bool) (k : Nat) : Nat := (if 0 < k ∧ us 0 = true then 1 else 0) + (if 1 < k ∧ us 1 = true then 2 else 0)
section SOUND2
variable {θ : TH} {V : VT} {U : UT} {sw : Bool} {p : PK} {vd : VD} {cd : CD} {c B : Nat} {bk : Nat → BD} {s : RS}
theorem cpA_or (sw : Bool) : cpA sw = 68 ∨ cpA sw = 84 := by cases sw; exact Or.inl rfl; exact Or.inr rfl
theorem vpA_or (sw : Bool) : vpA sw = 78 ∨ vpA sw = 94 := by cases sw; exact Or.inl rfl; exact Or.inr rfl
def FRs (θ : TH) (V W : VT) (cp vp : Nat) : Prop := (∀ q, q ≠ tb θ + 25 → q ≠ tb θ + 66 → q ≠ tb θ + (cp + 7) → q ≠ tb θ + (cp + 8) → q ≠ tb θ + (cp + 9) → q ≠ tb θ + vp → q ≠ tb θ + (vp + 2) → q ≠ tb θ + (vp + 4) → q ≠ tb θ + (vp + 5) → q ≠ tb θ + 101 → q ≠ tb θ + 102 → q ≠ tb θ + 104 → q ≠ tb θ + 105 → W q = V q) ∧ (∀ j, j ≠ 11 → j ≠ 12 → j ≠ 15 → W (tb θ + 66) j = V (tb θ + 66) j) ∧ (∀ j, j ≠ 5 → j ≠ 6 → W (tb θ + 25) j = V (tb θ + 25) j) ∧ (∀ j, j ≠ 9 → W (tb θ + vp) j = V (tb θ + vp) j)
theorem s_soundH {K : Int32 → VT → UT → Prop} (hθ : OKt θ) (hU : US θ sw U) (hp : HP θ V p) (hs : s.1 ≤ 8 * p.L) (h : ∀ z : Int32, z = nI (if spB p s = true then 1 + 2 * sdW p s else 0) → wb_D_decodeSound_26 θ (tb θ + 66) z K (cS θ V (sd2 p s)) U) : wp_D_decodeSound θ (tb θ + 66) (cS θ V s) U K := by
  unfold wp_D_decodeSound
  simp only [dcU hθ hU, true_and]
  refine ⟨by omega, s_flag hθ hU hp hs ?_⟩
  rcases rdV1 p s with z | z
  · have hsp : spB p s = false := by simp [spB, z]
    unfold sd2 sdW at h
    rw [hsp] at h
    rw [z]
    exact ⟨fun _ => h 0 rfl, fun q => absurd rfl q⟩
  · have hsp : spB p s = true := by simp [spB, z]
    unfold sd2 sdW at h
    rw [hsp] at h
    rw [z]
    refine ⟨fun q => absurd q (by decide), fun _ => ?_⟩
    simp only [dcU hθ hU, true_and]
    refine ⟨by omega, s_read hθ hU hp (rdS_ok 1 hs) (k := 2) (by decide) (h _ ?_)⟩
    have hr := rdV_lt p 2 (rdS p 1 s)
    rw [pk_shlN _ 1 (by decide) (by omega), show (1 : Int32) = nI 1 from rfl, Int32.or_comm, or_add (k := 1) (by decide) (by omega) (by decide)]
    congr 1
    simp only [if_true]
    omega
set_option maxHeartbeats 4000000 in
theorem s_sound {K : Int32 → VT → UT → Prop} (hθ : OKt θ) (hU : US θ sw U) (hp : HP θ V p) (hs : s.1 ≤ 8 * p.L) (hB : B ≤ 4) (hc : c ≤ 2) (hc0 : 0 < c) (h3 : V (tb θ + 66) 3 = nI c) {sS sL : Nat} (h4 : V (tb θ + 66) 4 = nI sS) (h5 : V (tb θ + 66) 5 = nI sL) (h6 : V (tb θ + 66) 6 = 1) (hS1 : 8 ≤ sS ∧ sS ≤ 64) (hL1 : 8 ≤ sL ∧ sL ≤ 64) (hcp : CPP cd B) (hcc : CPC θ V (cpA sw) cd) (hvp : VPP vd B c bk) (hvc : VPC θ V (vpA sw) c vd) (hbk : ∀ k, k < B → BKP (bk k) ∧ BKC θ V k (bk k)) (h0 : (sd2 p s).2 = true → K 0 (cS θ V (sd2 p s)) U) (h1 : (sd2 p s).2 = false → ∀ W sz, sz = (if spB p s = true then sL else sS) → FRs θ V W (cpA sw) (vpA sw) → W (tb θ + 66) 11 = nI sz → W (tb θ + 66) 12 = nI (sdM p bk cd vd s c (sz / 2)) → W (tb θ + 66) 15 = smpN (V (tb θ + 66) 15) (V (tb θ + 66) 11) (nI sz) (V (tb θ + 25) 4) (V (tb θ + 25) 3) → (∀ ch x, ch < c → x < sz / 2 → W (tb θ + (101 + ch)) x = sdC p bk cd s c ch x ∧ W (tb θ + (104 + ch)) x = sdF p bk cd vd s c (sz / 2) ch x) → K 1 W U) : wp_D_decodeSound θ (tb θ + 66) (cS θ V s) U K := by
  have hco := cpA_or sw
  have hvo := vpA_or sw
  have hA : ∀ ch, ch < 2 → U (tb θ + 100) ch = tb θ + (101 + ch) ∧ U (tb θ + 103) ch = tb θ + (104 + ch) ∧ (∀ k, isA θ (tb θ + (101 + ch)) 0 k ↔ k = 32) ∧ (∀ k, isA θ (tb θ + (104 + ch)) 0 k ↔ k = 32) := by
    intro ch hch
    have : ch = 0 ∨ ch = 1 := by omega
    rcases this with rfl | rfl
    · exact ⟨uq hU (by cases sw <;> decide +kernel), uq hU (by cases sw <;> decide +kernel), kA hθ (by decide) rfl, kA hθ (by decide) rfl⟩
    · exact ⟨uq hU (by cases sw <;> decide +kernel), uq hU (by cases sw <;> decide +kernel), kA hθ (by decide) rfl, kA hθ (by decide) rfl⟩
  refine s_soundH hθ hU hp hs (fun z hz => ?_)
  unfold wb_D_decodeSound_26
  simp only [dcU hθ hU, true_and]
  have X66 : ∀ j, cS θ V (sd2 p s) (tb θ + 66) j = V (tb θ + 66) j := fun j => by rw [cS_ne (by omega)]
  rw [X66 6, h6, X66 5, X66 4, h5, h4, X66 11, cS_6]
  refine ⟨fun q => absurd q (by decide), fun _ => ⟨by omega, fun q => ?_, fun q => h0 ?_⟩⟩
  rotate_left
  · cases e : (sd2 p s).2
    · rw [e] at q; exact absurd rfl q
    · rfl
  have hno : (sd2 p s).2 = false := bZ_0.1 q
  intro y18 e18
  have hzl : (if spB p s = true then 1 + 2 * sdW p s else 0) < 8 := by
    have := rdV_lt p 2 (rdS p 1 s)
    unfold sdW
    split
    · omega
    · decide
  -- go on with a size
  have main : ∀ sz, sz = (if spB p s = true then sL else sS) → wb_D_decodeSound_67 θ (tb θ + 66) z y18 (nI sz) (tb θ + 66) K (cS θ V (sd2 p s)) U := by
    intro sz hsz
    have hszb : 8 ≤ sz ∧ sz ≤ 64 := by rw [hsz]; split; exact hL1; exact hS1
    unfold wb_D_decodeSound_67
    simp only [dcU hθ hU, true_and]
    intro V21 h21
    rw [cS_up (by omega)] at h21
    subst h21
    have f1 : ∀ q, q ≠ tb θ + 66 → up2 V (tb θ + 66) 11 (nI sz) q = V q := fun q hq => up2_ne hq
    have f2 : ∀ j, j ≠ 11 → up2 V (tb θ + 66) 11 (nI sz) (tb θ + 66) j = V (tb θ + 66) j := fun j hj => up2_ab hj
    have f3 : up2 V (tb θ + 66) 11 (nI sz) (tb θ + 66) 11 = nI sz := up2_aa
    generalize up2 V (tb θ + 66) 11 (nI sz) = W0 at f1 f2 f3 ⊢
    rw [cS_ne (show tb θ + 66 ≠ tb θ + 25 by omega), f3, show (2 : Int32) = nI 2 from rfl, pk_div (by omega) (by decide) (by decide)]
    refine ⟨by decide, fun y24 e24 => ?_⟩
    subst e24
    have hw : sz / 2 ≤ 32 := by omega
    -- frames: what the loop may touch
    have frm : ∀ W : VT, (∀ q, q ≠ tb θ + (cpA sw + 7) → q ≠ tb θ + (cpA sw + 8) → q ≠ tb θ + (cpA sw + 9) → q ≠ tb θ + 101 → q ≠ tb θ + 102 → q ≠ tb θ + 104 → q ≠ tb θ + 105 → W q = W0 q) → HP θ W p ∧ CPC θ W (cpA sw) cd ∧ VPC θ W (vpA sw) c vd ∧ (∀ k, k < B → BKP (bk k) ∧ BKC θ W k (bk k)) ∧ W (tb θ + 66) 3 = nI c := by
      intro W hW
      have g : ∀ q, q ≠ tb θ + 66 → q ≠ tb θ + (cpA sw + 7) → q ≠ tb θ + (cpA sw + 8) → q ≠ tb θ + (cpA sw + 9) → q ≠ tb θ + 101 → q ≠ tb θ + 102 → q ≠ tb θ + 104 → q ≠ tb θ + 105 → W q = V q := fun q a b d e f g i j => by rw [hW q b d e f g i j, f1 q a]
      refine ⟨hp.eq (by rw [g _ (by omega) (by omega) (by omega) (by omega) (by omega) (by omega) (by omega) (by omega)]) (g _ (by omega) (by omega) (by omega) (by omega) (by omega) (by omega) (by omega) (by omega)), hcc.eq (fun a a1 a2 => g _ (by omega) (by omega) (by omega) (by omega) (by omega) (by omega) (by omega) (by omega)), hvc.eq (fun j _ => by rw [g _ (by omega) (by omega) (by omega) (by omega) (by omega) (by omega) (by omega) (by omega)]) (g _ (by omega) (by omega) (by omega) (by omega) (by omega) (by omega) (by omega) (by omega)), fun k hk => ⟨(hbk k hk).1, (hbk k hk).2.eq (g _ (by omega) (by omega) (by omega) (by omega) (by omega) (by omega) (by omega) (by omega)) (g _ (by omega) (by omega) (by omega) (by omega) (by omega) (by omega) (by omega) (by omega)) (g _ (by omega) (by omega) (by omega) (by omega) (by omega) (by omega) (by omega) (by omega))⟩, ?_⟩
      rw [hW _ (by omega) (by omega) (by omega) (by omega) (by omega) (by omega) (by omega), f2 3 (by decide)]; exact h3
    refine loop2 c (fun k b V1 => b = nI (unK (sdU p bk cd s c) k) ∧ ∃ W, V1 = cS θ W (sdS p bk cd s k) ∧ (∀ q, q ≠ tb θ + (cpA sw + 7) → q ≠ tb θ + (cpA sw + 8) → q ≠ tb θ + (cpA sw + 9) → q ≠ tb θ + 101 → q ≠ tb θ + 102 → q ≠ tb θ + 104 → q ≠ tb θ + 105 → W q = W0 q) ∧ (∀ ch x, ch < k → x < sz / 2 → W (tb θ + (101 + ch)) x = sdC p bk cd s c ch x) ∧ (∀ ch x, ch < k → x < 32 → W (tb θ + (104 + ch)) x = 0)) ⟨(by unfold unK; rw [if_neg (by omega), if_neg (by omega)]; rfl), W0, rfl, fun _ _ _ _ _ _ _ _ => rfl, fun ch x hch => (by omega), fun ch x hch => (by omega)⟩ (fun f k b V1 hk hJ hgo => ?_) (fun f b V1 hJ => ?_)
    · obtain ⟨rfl, W, rfl, w1, w2, w3⟩ := hJ
      obtain ⟨hpW, hcW, hvW, hbW, hW3⟩ := frm W w1
      obtain ⟨u1, u2, u3, u4⟩ := hA k (by omega)
      have hin : vp_in (nI k) 2 := vp_in_nI (by omega) (by decide)
      show bl_D_decodeSound_83 _ _ _ _ _ _ _ _ _ _ _
      unfold bl_D_decodeSound_83
      simp only [dcU hθ hU, true_and, exists_eq_left]
      rw [cS_ne (show tb θ + 66 ≠ tb θ + 25 by omega), hW3, nI_clamp (show k < 2 ^ 31 by omega), u1]
      refine br_f (nI_ge hk (by omega)) ⟨by omega, hin, by omega, s_zero u3 (by decide) (fun X1 x11 x12 => ?_)⟩
      simp only [dcU hθ hU, true_and, exists_eq_left]
      rw [u2]
      refine ⟨by omega, hin, by omega, s_zero u4 (by decide) (fun X2 x21 x22 => ?_)⟩
      simp only [dcU hθ hU, true_and, exists_eq_left]
      rw [u1]
      have e2 : ∃ Y, X2 = cS θ Y (sdS p bk cd s k) ∧ (∀ q, q ≠ tb θ + (101 + k) → q ≠ tb θ + (104 + k) → Y q = W q) ∧ (∀ j, j < 32 → Y (tb θ + (101 + k)) j = 0) ∧ ∀ j, j < 32 → Y (tb θ + (104 + k)) j = 0 := by
        have h25 : X2 (tb θ + 25) = cS θ W (sdS p bk cd s k) (tb θ + 25) := by rw [x21 _ (by omega), x11 _ (by omega)]
        refine ⟨up2 (up2 X2 (tb θ + 25) 5 (W (tb θ + 25) 5)) (tb θ + 25) 6 (W (tb θ + 25) 6), ?_, fun q a b => ?_, fun j hj => ?_, fun j hj => ?_⟩
        · have e := cS_self (θ := θ) (V := X2) (s := sdS p bk cd s k) (by rw [h25, cS_5]) (by rw [h25, cS_6])
          funext q j
          by_cases hq : q = tb θ + 25
          · subst hq
            by_cases h6 : j = 6
            · subst h6; rw [cS_6, h25, cS_6]
            · by_cases h5 : j = 5
              · subst h5; rw [cS_5, h25, cS_5]
              · rw [cS_j h5 h6, up2_ab h6, up2_ab h5]
          · rw [cS_ne hq, up2_ne hq, up2_ne hq]
        · by_cases hq : q = tb θ + 25
          · subst hq
            funext j
            by_cases h6 : j = 6
            · subst h6; rw [up2_aa]
            · by_cases h5 : j = 5
              · subst h5; rw [up2_ab (by decide), up2_aa]
              · rw [up2_ab h6, up2_ab h5, h25, cS_j h5 h6]
          · rw [up2_ne hq, up2_ne hq, x21 q b, x11 q a, cS_ne hq]
        · rw [up2_ne (by omega), up2_ne (by omega), x21 _ (by omega)]; exact x12 j hj
        · rw [up2_ne (by omega), up2_ne (by omega)]; exact x22 j hj
      obtain ⟨Y, rfl, y1, y2, y3⟩ := e2
      have y0 : ∀ q, q ≠ tb θ + (cpA sw + 7) → q ≠ tb θ + (cpA sw + 8) → q ≠ tb θ + (cpA sw + 9) → q ≠ tb θ + 101 → q ≠ tb θ + 102 → q ≠ tb θ + 104 → q ≠ tb θ + 105 → Y q = W0 q := fun q a b d e f g i => by rw [y1 q (by omega) (by omega)]; exact w1 q a b d e f g i
      obtain ⟨hpY, hcY, hvY, hbY, hY3⟩ := frm Y y0
      refine ⟨by omega, by omega, by omega, by omega, hin, by omega, ?_⟩
      refine s_curve (bk := bk) (cd := cd) (B := B) hθ hU hco hpY (sdS_ok hs k) hB hcp hcY hbY u3 (by omega) hw (fun Z z1 z2 z3 => ?_)
      have hus : sdU p bk cd s c k = crU p bk cd (sdS p bk cd s k) := by unfold sdU; simp [hk]
      have hk01 : k = 0 ∨ k = 1 := by omega
      have go : ∀ b : Int32, b = nI (unK (sdU p bk cd s c) (k + 1)) → ∀ y : Int32, y = nI k + 1 → wl_D_decodeSound_83 θ (tb θ + 66) z y18 (nI (sz / 2)) K f b y (cS θ Z (crS p bk cd (sdS p bk cd s k))) U := by
        intro b hb y hy
        rw [hy, nI_1]
        refine hgo _ _ ⟨hb, Z, rfl, fun q a b' d e f g i => ?_, fun ch x hch hx => ?_, fun ch x hch hx => ?_⟩
        · rw [z1 q (by omega) a b' d]; exact y0 q a b' d e f g i
        · by_cases ek : ch = k
          · subst ek
            unfold sdC
            rw [hus]
            cases hcu : crU p bk cd (sdS p bk cd s ch)
            · rw [z3 x (Or.inl hcu), y2 x (by omega)]; rfl
            · rw [z2 hcu x hx]; rfl
          · rw [z1 _ (by omega) (by omega) (by omega) (by omega), y1 _ (by omega) (by omega)]
            exact w2 ch x (by omega) hx
        · by_cases ek : ch = k
          · subst ek
            rw [z1 _ (by omega) (by omega) (by omega) (by omega)]; exact y3 x hx
          · rw [z1 _ (by omega) (by omega) (by omega) (by omega), y1 _ (by omega) (by omega)]
            exact w3 ch x (by omega) hx
      have hul : unK (sdU p bk cd s c) k < 2 ^ k := by
        unfold unK
        rcases hk01 with rfl | rfl
        · simp
        · rw [if_neg (show ¬ (1 < 1 ∧ sdU p bk cd s c 1 = true) by omega)]
          split <;> omega
      have hun : unK (sdU p bk cd s c) (k + 1) = unK (sdU p bk cd s c) k + (if crU p bk cd (sdS p bk cd s k) = true then 2 ^ k else 0) := by
        rw [← hus]
        unfold unK
        rcases hk01 with rfl | rfl
        · simp
        · simp
      cases hcu : crU p bk cd (sdS p bk cd s k)
      · rw [hcu] at hun
        refine ⟨fun _ y66 e66 => go y66 ?_, fun w => absurd rfl w⟩
        rw [e66, hun]
        have := or_bit (a := unK (sdU p bk cd s c) k) (b := 0) (k := k) hul (by decide) (by omega)
        rw [Nat.zero_mul] at this
        exact this
      · rw [hcu] at hun
        refine ⟨fun w => absurd w (by decide), fun _ y68 e68 => go y68 ?_⟩
        have h2k : 2 ^ k ≤ 2 ^ 1 := p2le (by omega)
        rw [e68, hun, show (1 : Int32) = nI 1 from rfl, pk_shlN _ k (sh31 (by omega)) (by omega), or_bit hul (by decide) (by omega), Nat.one_mul]
        rfl
    · obtain ⟨rfl, W, rfl, w1, w2, w3⟩ := hJ
      obtain ⟨hpW, hcW, hvW, hbW, hW3⟩ := frm W w1
      have hus1 : c = 1 → sdU p bk cd s c 1 = false := by intro e; unfold sdU; simp [e]
      have hun : unK (sdU p bk cd s c) c = unN (sdU p bk cd s c) := by
        unfold unK unN
        have : c = 1 ∨ c = 2 := by omega
        rcases this with e | e
        · have h1' := hus1 e
          rw [h1']; simp [hc0]
        · have : 1 < c := by omega
          simp [hc0, this]
      rw [hun]
      show bl_D_decodeSound_83 _ _ _ _ _ _ _ _ _ _ _
      unfold bl_D_decodeSound_83
      simp only [dcU hθ hU, true_and]
      rw [cS_ne (show tb θ + 66 ≠ tb θ + 25 by omega), hW3]
      refine br_t (nI_le (Nat.le_refl _) (by omega)) ⟨by omega, by omega, by omega, by omega, ?_⟩
      refine s_vals (bk := bk) (v := vd) (us := sdU p bk cd s c) hθ hU hvo hpW (sdS_ok hs c) hB hc hc0 hvp hvW hbW hus1 hw (vv := fun _ _ => 0) (fun ch x a b => w3 ch x a b) (fun X x1 x2 x3 => ?_)
      simp only [dcU hθ hU, true_and]
      rw [cS_ne (show tb θ + vpA sw ≠ tb θ + 25 by omega), x2 8 (by decide), hvW.2.2.2.2.2.2.2.2]
      have hszn : ∀ t, cS θ X t (tb θ + 66) 11 = nI sz := fun t => by rw [cS_ne (by omega), x1 _ (by omega) (by omega) (by omega) (by omega) (by omega) (by omega), w1 _ (by omega) (by omega) (by omega) (by omega) (by omega) (by omega) (by omega)]; exact f3
      -- the end
      have fin : ∀ Y, (∀ q, q ≠ tb θ + 104 → q ≠ tb θ + 105 → Y q = cS θ X (sdV p bk cd vd s c (sz / 2)).s q) → (∀ ch x, ch < c → x < sz / 2 → Y (tb θ + (104 + ch)) x = sdF p bk cd vd s c (sz / 2) ch x) → wb_D_decodeSound_200 θ (tb θ + 66) z y18 (nI (unN (sdU p bk cd s c))) K Y U := by
        intro Y y1 y2
        unfold wb_D_decodeSound_200
        simp only [dcU hθ hU, true_and]
        rw [y1 (tb θ + 25) (by omega) (by omega), cS_6]
        have hun4 : unN (sdU p bk cd s c) < 4 := by unfold unN; split <;> split <;> omega
        have emk : ∀ o : Nat, o = (if (sdV p bk cd vd s c (sz / 2)).s.2 = true then 32 else 0) → (z ||| (nI (unN (sdU p bk cd s c)) <<< ((3 : Int32) &&& 31))) ||| nI o = nI (sdM p bk cd vd s c (sz / 2)) := by
          intro o ho
          have e1 : nI (unN (sdU p bk cd s c)) <<< ((3 : Int32) &&& 31) = nI (unN (sdU p bk cd s c) * 2 ^ 3) := pk_shlN _ 3 (by decide) (by omega)
          rw [e1, hz, Int32.or_comm (nI _) (nI (unN (sdU p bk cd s c) * 2 ^ 3)), or_add (k := 3) (by omega) (by omega) (by omega)]
          have ho2 : o = (if (sdV p bk cd vd s c (sz / 2)).s.2 = true then 1 else 0) * 2 ^ 5 := by rw [ho]; split <;> rfl
          rw [ho2, or_bit (k := 5) (by omega) (by split <;> decide) (by decide), ← ho2, ho]
          unfold sdM
          congr 1
          omega
        have last : ∀ o : Nat, o = (if (sdV p bk cd vd s c (sz / 2)).s.2 = true then 32 else 0) → wb_D_decodeSound_223 θ (tb θ + 66) y18 (nI o) (z ||| (nI (unN (sdU p bk cd s c)) <<< ((3 : Int32) &&& 31))) (tb θ + 66) K Y U := by
          intro o ho
          unfold wb_D_decodeSound_223
          simp only [dcU hθ hU, true_and]
          intro V75 h75
          rw [emk o ho] at h75
          subst h75
          have Y66 : ∀ j, Y (tb θ + 66) j = W0 (tb θ + 66) j := fun j => by rw [y1 _ (by omega) (by omega), cS_ne (by omega), x1 _ (by omega) (by omega) (by omega) (by omega) (by omega) (by omega), w1 _ (by omega) (by omega) (by omega) (by omega) (by omega) (by omega) (by omega)]
          have Y25 : ∀ j, j ≠ 5 → j ≠ 6 → Y (tb θ + 25) j = V (tb θ + 25) j := fun j a b => by rw [y1 _ (by omega) (by omega), cS_j a b, x1 _ (by omega) (by omega) (by omega) (by omega) (by omega) (by omega), w1 _ (by omega) (by omega) (by omega) (by omega) (by omega) (by omega) (by omega), f1 _ (by omega)]
          refine s_count hθ hU (fun Z z1 z2 z3 => h1 hno Z sz hsz ⟨fun q a1 a2 a3 a4 a5 a6 a7 a8 a9 a10 a11 a12 a13 => ?_, fun j a1 a2 a3 => ?_, fun j a1 a2 => ?_, fun j a1 => ?_⟩ ?_ ?_ ?_ (fun ch x hch hx => ⟨?_, ?_⟩))
          · rw [z1 q a2, up2_ne a2, y1 q a12 a13, cS_ne a1, x1 q a6 a7 a8 a9 a12 a13, w1 q a3 a4 a5 a10 a11 a12 a13, f1 q a2]
          · rw [z2 j a3, up2_ab a2, Y66, f2 j a1]
          · rw [z1 _ (by omega), up2_ne (by omega), Y25 j a1 a2]
          · rw [z1 _ (by omega), up2_ne (by omega), y1 _ (by omega) (by omega), cS_ne (by omega), x2 j a1, w1 _ (by omega) (by omega) (by omega) (by omega) (by omega) (by omega) (by omega), f1 _ (by omega)]
          · rw [z2 11 (by decide), up2_ab (by decide), Y66, f3]
          · rw [z2 12 (by decide), up2_aa]
          · rw [z3, up2_ab (by decide), up2_ab (by decide), up2_ne (by omega), Y66, Y66, f2 15 (by decide), f3, Y25 4 (by decide) (by decide), Y25 3 (by decide) (by decide), e18]
          · rw [z1 _ (by omega), up2_ne (by omega), y1 _ (by omega) (by omega), cS_ne (by omega), x1 _ (by omega) (by omega) (by omega) (by omega) (by omega) (by omega)]
            exact w2 ch x hch hx
          · rw [z1 _ (by omega), up2_ne (by omega)]; exact y2 ch x hch hx
        cases ho : (sdV p bk cd vd s c (sz / 2)).s.2
        · exact ⟨by omega, fun _ => last 0 (by rw [ho]; rfl), fun w => absurd rfl w⟩
        · exact ⟨by omega, fun w => absurd w (by decide), fun _ => last 32 (by rw [ho]; rfl)⟩
      cases hj : vd.jo
      · refine ⟨by omega, fun _ => fin _ (fun _ _ _ => rfl) (fun ch x hch hx => ?_), fun w => absurd rfl w⟩
        unfold sdF
        rw [hj, cS_ne (by omega)]
        exact x3 ch x hch (by omega)
      · have hc2 : c = 2 := hvp.2.2.2.2.2.2.2.2.2 hj
        refine ⟨by omega, fun w => absurd w (by decide), fun _ => s_unjoin hθ hU hw (fun Y y1 y2 => fin Y y1 (fun ch x hch hx => ?_))⟩
        have a0 : cS θ X (sdV p bk cd vd s c (sz / 2)).s (tb θ + 104) x = (sdV p bk cd vd s c (sz / 2)).vv 0 x := by rw [cS_ne (by omega)]; exact x3 0 x (by omega) (by omega)
        have a1 : cS θ X (sdV p bk cd vd s c (sz / 2)).s (tb θ + 105) x = (sdV p bk cd vd s c (sz / 2)).vv 1 x := by rw [cS_ne (by omega)]; exact x3 1 x (by omega) (by omega)
        obtain ⟨b0, b1⟩ := y2 x hx
        have b0' : Y (tb θ + 104) x = jn0 ((sdV p bk cd vd s c (sz / 2)).vv 0 x) ((sdV p bk cd vd s c (sz / 2)).vv 1 x) := by rw [← a0, ← a1]; exact b0
        have b1' : Y (tb θ + 105) x = jn1 ((sdV p bk cd vd s c (sz / 2)).vv 0 x) ((sdV p bk cd vd s c (sz / 2)).vv 1 x) := by rw [← a0, ← a1]; exact b1
        unfold sdF jnV
        rw [if_pos hj]
        have : ch = 0 ∨ ch = 1 := by omega
        rcases this with rfl | rfl
        · rw [if_pos rfl]; exact b0'
        · rw [if_neg (by decide)]; exact b1'
  refine ⟨fun q2 => main sL ?_, fun q2 => main sS ?_⟩
  · cases hsp : spB p s
    · rw [hsp] at hz; exact absurd hz q2
    · rfl
  · cases hsp : spB p s
    · rfl
    · rw [hsp] at hz hzl
      exfalso
      rw [hz] at q2
      have := (nI_eq (b := 0) (by omega) (by decide)).1 q2
      simp at this
end SOUND2
