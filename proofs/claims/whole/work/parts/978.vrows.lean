-- the values of a block: rows and kinds
def VS : Type := RS × (Nat → Nat → Nat) × VT
def VS.s (x : VS) : RS := x.1
def VS.kd (x : VS) : Nat → Nat → Nat := x.2.1
def VS.vv (x : VS) : VT := x.2.2
def kdW (ki g fs e : Nat) (kd : Nat → Nat) : Nat → Nat := fun q => if fs ≤ q ∧ q < fs + g then e / ki ^ (fs + g - 1 - q) % ki else kd q
def kdR (p : PK) (v : VD) (bk : Nat → BD) (fs : Nat) : Nat → VS → VS
  | 0, x => x
  | r + 1, x => match (pkR p (bk v.kb) (kdR p v bk fs r x).s).1 with
    | none => ((pkR p (bk v.kb) (kdR p v bk fs r x).s).2, (kdR p v bk fs r x).kd, (kdR p v bk fs r x).vv)
    | some e => ((pkR p (bk v.kb) (kdR p v bk fs r x).s).2, fun row => if row = r then kdW v.ki (bk v.kb).d fs e ((kdR p v bk fs r x).kd r) else (kdR p v bk fs r x).kd row, (kdR p v bk fs r x).vv)
def roR (p : PK) (v : VD) (c : Nat) (us : Nat → Bool) (bk : Nat → BD) (ps pp : Nat) : Nat → VS → VS
  | 0, x => x
  | r + 1, x => match v.pb ((roR p v c us bk ps pp r x).kd r pp * 2 + ps) with
    | none => roR p v c us bk ps pp r x
    | some m => ((faJ p v c us (bk m) r (v.be + pp * v.ps) (v.ps / (bk m).d) ((roR p v c us bk ps pp r x).s, (roR p v c us bk ps pp r x).vv)).1, (roR p v c us bk ps pp r x).kd, (faJ p v c us (bk m) r (v.be + pp * v.ps) (v.ps / (bk m).d) ((roR p v c us bk ps pp r x).s, (roR p v c us bk ps pp r x).vv)).2)
def paK (p : PK) (v : VD) (c : Nat) (us : Nat → Bool) (bk : Nat → BD) (ps pp : Nat) (x : VS) : VS := if ps = 0 ∧ pp % (bk v.kb).d = 0 then kdR p v bk pp (vR v c us) x else x
def paS (p : PK) (v : VD) (c : Nat) (us : Nat → Bool) (bk : Nat → BD) (ps pp : Nat) (x : VS) : VS := roR p v c us bk ps pp (vR v c us) (paK p v c us bk ps pp x)
def paR (p : PK) (v : VD) (c : Nat) (us : Nat → Bool) (bk : Nat → BD) (ps : Nat) : Nat → VS → VS
  | 0, x => x
  | pp + 1, x => paS p v c us bk ps pp (paR p v c us bk ps pp x)
def vlF (p : PK) (v : VD) (c : Nat) (us : Nat → Bool) (bk : Nat → BD) (n : Nat) (x : VS) : VS := paR p v c us bk 1 n (paR p v c us bk 0 n x)
def unN (us : Nat → Bool) : Nat := (if us 0 = true then 1 else 0) + (if us 1 = true then 2 else 0)
section VROWS
variable {θ : TH} {V : VT} {U : UT} {sw : Bool} {p : PK} {v : VD} {c B vp : Nat} {us : Nat → Bool} {bk : Nat → BD} {s : RS}
theorem kdR_stop {fs : Nat} {x : VS} {r : Nat} (h : (kdR p v bk fs r x).s.2 = true) : ∀ d, kdR p v bk fs (r + d) x = kdR p v bk fs r x
  | 0 => rfl
  | d + 1 => by
    have ih := kdR_stop h d
    have e : kdR p v bk fs (r + (d + 1)) x = match (pkR p (bk v.kb) (kdR p v bk fs (r + d) x).s).1 with
      | none => ((pkR p (bk v.kb) (kdR p v bk fs (r + d) x).s).2, (kdR p v bk fs (r + d) x).kd, (kdR p v bk fs (r + d) x).vv)
      | some e => ((pkR p (bk v.kb) (kdR p v bk fs (r + d) x).s).2, fun row => if row = r + d then kdW v.ki (bk v.kb).d fs e ((kdR p v bk fs (r + d) x).kd (r + d)) else (kdR p v bk fs (r + d) x).kd row, (kdR p v bk fs (r + d) x).vv) := rfl
    rw [e, ih, pkR_out h]
    rfl
theorem kdR_vv {fs : Nat} {x : VS} : ∀ r, (kdR p v bk fs r x).vv = x.vv
  | 0 => rfl
  | r + 1 => by
    have ih := kdR_vv (fs := fs) (x := x) r
    unfold kdR
    split
    · exact ih
    · exact ih
theorem kdR_ok {fs : Nat} {x : VS} (h : x.s.1 ≤ 8 * p.L) : ∀ r, (kdR p v bk fs r x).s.1 ≤ 8 * p.L
  | 0 => h
  | r + 1 => by
    have ih := kdR_ok (fs := fs) h r
    unfold kdR
    split
    · exact pkR_ok ih
    · exact pkR_ok ih
theorem kdR_out {fs : Nat} {x : VS} (h : x.s.2 = true) (r : Nat) : kdR p v bk fs r x = x := by
  have := kdR_stop (p := p) (v := v) (bk := bk) (fs := fs) (x := x) (r := 0) h r
  rw [Nat.zero_add] at this
  exact this
theorem roR_kd {ps pp : Nat} {x : VS} : ∀ r, (roR p v c us bk ps pp r x).kd = x.kd
  | 0 => rfl
  | r + 1 => by
    have ih := roR_kd (ps := ps) (pp := pp) (x := x) r
    unfold roR
    split
    · exact ih
    · exact ih
theorem roR_ok {ps pp : Nat} {x : VS} (h : x.s.1 ≤ 8 * p.L) : ∀ r, (roR p v c us bk ps pp r x).s.1 ≤ 8 * p.L
  | 0 => h
  | r + 1 => by
    have ih := roR_ok (ps := ps) (pp := pp) h r
    unfold roR
    split
    · exact ih
    · exact faJ_ok (x := (_, _)) ih _
theorem roR_stop {ps pp : Nat} {x : VS} {r : Nat} (h : (roR p v c us bk ps pp r x).s.2 = true) : ∀ d, roR p v c us bk ps pp (r + d) x = roR p v c us bk ps pp r x
  | 0 => rfl
  | d + 1 => by
    have ih := roR_stop h d
    have e : roR p v c us bk ps pp (r + (d + 1)) x = match v.pb ((roR p v c us bk ps pp (r + d) x).kd (r + d) pp * 2 + ps) with
      | none => roR p v c us bk ps pp (r + d) x
      | some m => ((faJ p v c us (bk m) (r + d) (v.be + pp * v.ps) (v.ps / (bk m).d) ((roR p v c us bk ps pp (r + d) x).s, (roR p v c us bk ps pp (r + d) x).vv)).1, (roR p v c us bk ps pp (r + d) x).kd, (faJ p v c us (bk m) (r + d) (v.be + pp * v.ps) (v.ps / (bk m).d) ((roR p v c us bk ps pp (r + d) x).s, (roR p v c us bk ps pp (r + d) x).vv)).2) := rfl
    rw [e, ih]
    split
    · rfl
    · rw [faJ_out (x := ((roR p v c us bk ps pp r x).s, (roR p v c us bk ps pp r x).vv)) h]
      rfl
theorem paS_out {ps pp : Nat} {x : VS} (h : x.s.2 = true) : paS p v c us bk ps pp x = x := by
  have e : paK p v c us bk ps pp x = x := by
    unfold paK; split
    · exact kdR_out h _
    · rfl
  unfold paS
  rw [e]
  have := roR_stop (p := p) (v := v) (c := c) (us := us) (bk := bk) (ps := ps) (pp := pp) (x := x) (r := 0) h (vR v c us)
  rw [Nat.zero_add] at this
  exact this
theorem paR_stop {ps : Nat} {x : VS} {n : Nat} (h : (paR p v c us bk ps n x).s.2 = true) : ∀ d, paR p v c us bk ps (n + d) x = paR p v c us bk ps n x
  | 0 => rfl
  | d + 1 => by
    have ih := paR_stop h d
    show paS p v c us bk ps (n + d) (paR p v c us bk ps (n + d) x) = _
    rw [ih, paS_out h]
theorem paK_ok {ps pp : Nat} {x : VS} (h : x.s.1 ≤ 8 * p.L) : (paK p v c us bk ps pp x).s.1 ≤ 8 * p.L := by
  unfold paK; split
  · exact kdR_ok h _
  · exact h
theorem paR_ok {ps : Nat} {x : VS} (h : x.s.1 ≤ 8 * p.L) : ∀ n, (paR p v c us bk ps n x).s.1 ≤ 8 * p.L
  | 0 => h
  | n + 1 => roR_ok (paK_ok (paR_ok h n)) _
theorem vR_le : vR v c us ≤ 2 := by
  unfold vR; split
  · split <;> omega
  · split <;> split <;> omega
theorem vRc_lt {r : Nat} (hc : 0 < c) (hm : v.mo ≠ 2) (hr : r < vR v c us) : vRc v us r < c ∧ vRc v us r < 2 := by
  unfold vR at hr
  rw [if_neg hm] at hr
  unfold vRc
  split
  · omega
  · rename_i q
    by_cases h2 : c = 2 ∧ vOn v us 1 = true
    · omega
    · rw [if_neg h2] at hr
      by_cases h0 : vOn v us 0 = true
      · rw [if_pos h0] at hr
        exact absurd ⟨by omega, h0⟩ q
      · rw [if_neg h0] at hr; omega
theorem s_rows {K : VT → UT → Prop} (hθ : OKt θ) (hU : US θ sw U) (hv : vp = 78 ∨ vp = 94) (hvc : VPC θ V vp c v) (hc : c ≤ 2) (hc0 : 0 < c) (hmo : v.mo ≤ 2) (hus : c = 1 → us 1 = false) (h : ∀ W, (∀ q, q ≠ tb θ + vp → q ≠ tb θ + (vp + 2) → W q = V q) → (∀ j, j ≠ 9 → W (tb θ + vp) j = V (tb θ + vp) j) → W (tb θ + vp) 9 = nI (vR v c us) → (v.mo ≠ 2 → ∀ r, r < vR v c us → W (tb θ + (vp + 2)) r = nI (vRc v us r)) → K (cS θ W s) U) : wp_P_chooseRows θ (tb θ + vp) (nI (unN us)) (cS θ V s) U K := by
  obtain ⟨v0, v1, v2, v3, v4, v5, v6, v7, v8⟩ := hvc
  have hun : unN us < 4 := by unfold unN; split <;> split <;> omega
  have hany : vAny us = true ↔ unN us ≠ 0 := by
    unfold vAny unN
    cases us 0 <;> cases us 1 <;> simp
  have main : ∀ z : Int32, z = bZ (vAny us) → wb_P_chooseRows_9 θ (tb θ + vp) (nI (unN us)) z K (cS θ V s) U := by
    intro z hz
    unfold wb_P_chooseRows_9
    simp only [vpU hθ hU hv, true_and]
    intro V3 h3
    rw [cS_up (by omega)] at h3
    subst h3
    rw [cS_ne (show tb θ + vp ≠ tb θ + 25 by omega), up2_ab (by decide), v1]
    refine ⟨fun q => ?_, fun q => ?_⟩
    · have hm2 : v.mo ≠ 2 := fun w => q (by rw [w]; rfl)
      -- channel by channel
      have cnt : ∀ k, k ≤ c → (if vOn v us 0 = true ∧ 0 < k then 1 else 0) + (if k = 2 ∧ vOn v us 1 = true then 1 else 0) ≤ 2 := by
        intro k _; split <;> split <;> omega
      refine loop1 c (fun k V1 => ∃ W, V1 = cS θ W s ∧ (∀ q, q ≠ tb θ + vp → q ≠ tb θ + (vp + 2) → W q = V q) ∧ (∀ j, j ≠ 9 → W (tb θ + vp) j = V (tb θ + vp) j) ∧ W (tb θ + vp) 9 = nI ((if vOn v us 0 = true ∧ 0 < k then 1 else 0) + (if k = 2 ∧ vOn v us 1 = true then 1 else 0)) ∧ ∀ r, r < (if vOn v us 0 = true ∧ 0 < k then 1 else 0) + (if k = 2 ∧ vOn v us 1 = true then 1 else 0) → W (tb θ + (vp + 2)) r = nI (vRc v us r)) ⟨_, rfl, fun q a _ => up2_ne a, fun j hj => up2_ab hj, (by rw [up2_aa, if_neg (by omega), if_neg (by omega)]; rfl), fun r hr => (by rw [if_neg (by omega), if_neg (by omega)] at hr; omega)⟩ (fun f k V1 hk hJ hgo => ?_) (fun f V1 hJ => ?_)
      · obtain ⟨W, rfl, w1, w2, w3, w4⟩ := hJ
        show bl_P_chooseRows_39 _ _ _ _ _ _ _ _ _
        unfold bl_P_chooseRows_39
        simp only [vpU hθ hU hv, true_and]
        rw [cS_ne (show tb θ + vp ≠ tb θ + 25 by omega), w2 0 (by decide), v0, w2 8 (by decide), v8, bit_k (by omega) (by omega)]
        refine br_f (nI_ge hk (by omega)) ?_
        have hbit : unN us / 2 ^ k % 2 = 1 ↔ us k = true := by
          have : k = 0 ∨ k = 1 := by omega
          unfold unN
          rcases this with rfl | rfl
          · cases us 0 <;> cases us 1 <;> decide
          · cases us 0 <;> cases us 1 <;> decide
        have step : ∀ y : Int32, y = bZ (vOn v us k) → wb_P_chooseRows_72 θ (tb θ + vp) (nI (unN us)) z (nI k) y (wl_P_chooseRows_39 θ (tb θ + vp) (nI (unN us)) z K f) K (cS θ W s) U := by
          intro y hy
          subst hy
          unfold wb_P_chooseRows_72
          simp only [vpU hθ hU hv, true_and, exists_eq_left]
          rw [cS_ne (show tb θ + vp ≠ tb θ + 25 by omega), w3]
          have hk01 : k = 0 ∨ k = 1 := by omega
          cases hon : vOn v us k
          · refine ⟨fun _ y2 e2 => ?_, fun w => absurd rfl w⟩
            rw [e2, nI_1]
            refine hgo _ ⟨W, rfl, w1, w2, ?_, ?_⟩
            · rw [w3]; congr 1
              rcases hk01 with rfl | rfl
              · simp [hon]
              · simp [hon]
            · intro r hr
              refine w4 r ?_
              rcases hk01 with rfl | rfl
              · simp [hon] at hr
              · simpa [hon] using hr
          · refine ⟨fun w => absurd w (by decide), fun _ => ⟨by omega, ?_⟩⟩
            have hnn : (if vOn v us 0 = true ∧ 0 < k then 1 else 0) + (if k = 2 ∧ vOn v us 1 = true then 1 else 0) = if vOn v us 0 = true ∧ 0 < k then 1 else 0 := by
              rw [if_neg (show ¬ (k = 2 ∧ vOn v us 1 = true) by omega)]; rfl
            have hnl : (if vOn v us 0 = true ∧ 0 < k then 1 else 0) < 2 := by split <;> omega
            rw [hnn] at w4 ⊢
            rw [nI_clamp (by omega)]
            refine ⟨vp_in_nI hnl (by decide), fun V19 h19 V20 h20 y2 e2 => ?_⟩
            rw [cS_up (by omega)] at h19
            rw [h19, cS_ne (by omega), up2_ne (by omega), w3, hnn, nI_1, cS_up (by omega)] at h20
            rw [h20, e2, nI_1]
            have e3 : (if vOn v us 0 = true ∧ 0 < k + 1 then 1 else 0) + (if k + 1 = 2 ∧ vOn v us 1 = true then 1 else 0) = (if vOn v us 0 = true ∧ 0 < k then 1 else 0) + 1 := by
              rcases hk01 with rfl | rfl
              · simp [hon]
              · simp [hon]
            refine hgo _ ⟨_, rfl, fun q a b => ?_, fun j hj => ?_, ?_, fun r hr => ?_⟩
            · rw [up2_ne a, up2_ne b]; exact w1 q a b
            · rw [up2_ab hj, up2_ne (by omega)]; exact w2 j hj
            · rw [up2_aa, e3]
            · rw [up2_ne (by omega)]
              rw [e3] at hr
              by_cases er : r = (if vOn v us 0 = true ∧ 0 < k then 1 else 0)
              · rw [er, up2_aa]
                congr 1
                unfold vRc
                rcases hk01 with rfl | rfl
                · simp [hon]
                · cases h0 : vOn v us 0 <;> simp
              · rw [up2_ab er]; exact w4 r (by omega)
        cases hj : v.jo
        · refine ⟨fun _ => ⟨fun w => step 0 ?_, fun w => step 1 ?_⟩, fun w => absurd rfl w⟩
          · have : us k = false := by
              cases e : us k
              · rfl
              · exact absurd (hbit.2 e) w
            unfold vOn; rw [hj, this]; rfl
          · unfold vOn; rw [hj, hbit.1 w]; rfl
        · refine ⟨fun w => absurd w (by decide), fun _ => step z ?_⟩
          unfold vOn; rw [if_pos hj]; exact hz
      · obtain ⟨W, rfl, w1, w2, w3, w4⟩ := hJ
        show bl_P_chooseRows_39 _ _ _ _ _ _ _ _ _
        unfold bl_P_chooseRows_39
        simp only [vpU hθ hU hv, true_and]
        rw [cS_ne (show tb θ + vp ≠ tb θ + 25 by omega), w2 0 (by decide), v0]
        have e : vR v c us = (if vOn v us 0 = true ∧ 0 < c then 1 else 0) + (if c = 2 ∧ vOn v us 1 = true then 1 else 0) := by
          unfold vR; rw [if_neg hm2]
          congr 1
          simp [hc0]
        refine br_t (nI_le (Nat.le_refl _) (by omega)) (h W w1 w2 (by rw [e]; exact w3) (fun _ r hr => w4 r (by rw [← e]; exact hr)))
    · have hm2 : v.mo = 2 := (nI_eq (b := 2) (by omega) (by decide)).1 q
      have eR : vR v c us = if vAny us = true then 1 else 0 := by unfold vR; rw [if_pos hm2]
      have fin : ∀ x : Int32, x = nI (vR v c us) → ∀ V6, V6 = up2 (cS θ (up2 V (tb θ + vp) 9 0) s) (tb θ + vp) 9 x → K V6 U := by
        intro x hx V6 h6
        rw [cS_up (by omega), up2_up2] at h6
        rw [h6]
        exact h _ (fun q a _ => up2_ne a) (fun j hj => up2_ab hj) (by rw [up2_aa, hx]) (fun w => absurd hm2 w)
      subst hz
      cases ha : vAny us
      · rw [ha] at eR
        exact ⟨fun _ => fin 0 (by rw [eR]; rfl), fun w => absurd rfl w⟩
      · rw [ha] at eR
        exact ⟨fun w => absurd w (by decide), fun _ => fin 1 (by rw [eR]; rfl)⟩
  unfold wp_P_chooseRows
  refine ⟨fun q => main 0 ?_, fun q => main 1 ?_⟩
  · have : unN us = 0 := (nI_eq (b := 0) (by omega) (by decide)).1 q
    cases e : vAny us
    · rfl
    · exact absurd this (hany.1 e)
  · rw [hany.2 (fun w => q (by rw [w]; rfl))]; rfl
/-- the kinds as one side shows them -/
def KDc (θ : TH) (W : VT) (vp R G ki : Nat) (kd : Nat → Nat → Nat) : Prop := ∀ row q, row < R → q < G → q < 64 → W (tb θ + (vp + 4 + row)) q = nI (kd row q) ∧ kd row q < ki
theorem s_kinds {K : VT → UT → Prop} (hθ : OKt θ) (hU : US θ sw U) (hv : vp = 78 ∨ vp = 94) (hp : HP θ V p) {x : VS} (hx : x.s.1 ≤ 8 * p.L) (hbp : BKP (bk v.kb)) (hbc : BKC θ V v.kb (bk v.kb)) (hkb : v.kb < 4) {R fs : Nat} (hR : R ≤ 2) (v9 : V (tb θ + vp) 9 = nI R) (v5 : V (tb θ + vp) 5 = nI v.ki) (hki : 1 ≤ v.ki) (hki2 : v.ki ≤ 2) (hfs : fs < 64) (hkd : KDc θ V vp R fs v.ki x.kd) (h : ∀ W, (∀ q, q ≠ tb θ + (vp + 4) → q ≠ tb θ + (vp + 5) → W q = V q) → ((kdR p v bk fs R x).s.2 = false → KDc θ W vp R (fs + (bk v.kb).d) v.ki (kdR p v bk fs R x).kd) → K (cS θ W (kdR p v bk fs R x).s) U) : wp_P_readKinds θ (tb θ + vp) (tb θ + 25) (tb θ + (106 + 5 * v.kb)) (nI fs) (cS θ V x.s) U K := by
  obtain ⟨b1, b2, b3, b4, b5, b6⟩ := id hbc
  obtain ⟨a1, a2, a3, a4, a5⟩ := id hbp
  have hUr : ∀ r, r < 2 → U (tb θ + (vp + 3)) r = tb θ + (vp + 4 + r) ∧ ∀ k, isA θ (tb θ + (vp + 4 + r)) 0 k ↔ k = 64 := by
    intro r hr
    have hvU := vpU (v := vp) hθ hU hv
    have : r = 0 ∨ r = 1 := by omega
    rcases this with rfl | rfl
    · exact ⟨hvU.2.2.2.2.1, hvU.2.2.2.2.2.2.2.2.2.1⟩
    · exact ⟨hvU.2.2.2.2.2.1, hvU.2.2.2.2.2.2.2.2.2.2.1⟩
  refine loop1 R (fun r V1 => ∃ W, V1 = cS θ W (kdR p v bk fs r x).s ∧ (∀ q, q ≠ tb θ + (vp + 4) → q ≠ tb θ + (vp + 5) → W q = V q) ∧ (∀ row q, row < R → q < (if row < r then fs + (bk v.kb).d else fs) → q < 64 → W (tb θ + (vp + 4 + row)) q = nI ((kdR p v bk fs r x).kd row q) ∧ (kdR p v bk fs r x).kd row q < v.ki)) ⟨V, rfl, fun _ _ _ => rfl, fun row q a b d => (by rw [if_neg (by omega)] at b; exact hkd row q a b d)⟩ (fun f r V1 hr hJ hgo => ?_) (fun f V1 hJ => ?_)
  · obtain ⟨W, rfl, w1, w2⟩ := hJ
    have hpW : HP θ W p := hp.eq (by rw [w1 _ (by omega) (by omega)]) (w1 _ (by omega) (by omega))
    have hbW : BKC θ W v.kb (bk v.kb) := hbc.eq (w1 _ (by omega) (by omega)) (w1 _ (by omega) (by omega)) (w1 _ (by omega) (by omega))
    show bl_P_readKinds_3 _ _ _ _ _ _ _ _ _ _
    unfold bl_P_readKinds_3
    simp only [bkU hθ hU hkb, vpU hθ hU hv, true_and]
    rw [cS_ne (show tb θ + vp ≠ tb θ + 25 by omega), w1 _ (by omega) (by omega), v9]
    refine br_f (nI_ge hr (by omega)) (s_pick hθ hU hpW hkb hbp hbW (kdR_ok hx r) ?_)
    have eJ : kdR p v bk fs (r + 1) x = match (pkR p (bk v.kb) (kdR p v bk fs r x).s).1 with
      | none => ((pkR p (bk v.kb) (kdR p v bk fs r x).s).2, (kdR p v bk fs r x).kd, (kdR p v bk fs r x).vv)
      | some e => ((pkR p (bk v.kb) (kdR p v bk fs r x).s).2, fun row => if row = r then kdW v.ki (bk v.kb).d fs e ((kdR p v bk fs r x).kd r) else (kdR p v bk fs r x).kd row, (kdR p v bk fs r x).vv) := rfl
    cases hpk : (pkR p (bk v.kb) (kdR p v bk fs r x).s).1 with
    | none =>
      rw [hpk] at eJ
      have ho := pkR_none hbp hpk
      have hst := kdR_stop (p := p) (v := v) (bk := bk) (fs := fs) (x := x) (r := r + 1) (by rw [eJ]; exact ho) (R - (r + 1))
      rw [show r + 1 + (R - (r + 1)) = R by omega, eJ] at hst
      rw [hst] at h
      refine ⟨fun z => absurd rfl z, fun _ => h W w1 (fun w => ?_)⟩
      have w' : (pkR p (bk v.kb) (kdR p v bk fs r x).s).2.2 = false := w
      rw [ho] at w'; cases w'
    | some e =>
      rw [hpk] at eJ
      have he := (pkR_some hpk).1
      refine ⟨fun _ y8 e8 => ?_, fun z => absurd z (nI_nm1 (by omega))⟩
      rw [cS_ne (show tb θ + (106 + 5 * v.kb) ≠ tb θ + 25 by omega), w1 _ (by omega) (by omega), b2, nI_add, show (1 : Int32) = nI 1 from rfl, pk_sub (by omega)] at e8
      subst e8
      -- the parts of the group, from the last
      have inner : ∀ n t X, t + n = (bk v.kb).d → (∀ q, q ≠ tb θ + (vp + 4) → q ≠ tb θ + (vp + 5) → X q = V q) → (∀ row q, row < R → row ≠ r → X (tb θ + (vp + 4 + row)) q = W (tb θ + (vp + 4 + row)) q) → (∀ q, q < fs → X (tb θ + (vp + 4 + r)) q = W (tb θ + (vp + 4 + r)) q) → (∀ q, fs + n ≤ q → q < fs + (bk v.kb).d → q < 64 → X (tb θ + (vp + 4 + r)) q = nI (e / v.ki ^ (fs + (bk v.kb).d - 1 - q) % v.ki)) → ∀ z6 : Int32, z6 = nI (fs + n) + (-1) → wl_P_readKinds_36 θ (tb θ + vp) (tb θ + 25) (tb θ + (106 + 5 * v.kb)) (nI fs) (nI r) (wl_P_readKinds_3 θ (tb θ + vp) (tb θ + 25) (tb θ + (106 + 5 * v.kb)) (nI fs) K f) K (n + 1) (nI (e / v.ki ^ t)) z6 (cS θ X (pkR p (bk v.kb) (kdR p v bk fs r x).s).2) U := by
        intro n
        induction n with
        | zero =>
          intro t X ht x1 x2 x3 x4 z6 hz6
          show bl_P_readKinds_36 _ _ _ _ _ _ _ _ _ _ _ _ _
          unfold bl_P_readKinds_36
          have hlt : z6 < nI fs := by
            rw [hz6]
            cases fs with
            | zero => decide
            | succ k => rw [show k + 1 + 0 = k + 1 from rfl, pk_m1]; exact nI_lt (by omega) (by omega)
          refine br_t hlt (fun y10 e10 => ?_)
          rw [e10, nI_1]
          refine hgo _ ⟨X, by rw [eJ]; rfl, x1, fun row q a b d => ?_⟩
          rw [eJ]
          show X _ q = nI ((if row = r then kdW v.ki (bk v.kb).d fs e ((kdR p v bk fs r x).kd r) else (kdR p v bk fs r x).kd row) q) ∧ (if row = r then kdW v.ki (bk v.kb).d fs e ((kdR p v bk fs r x).kd r) else (kdR p v bk fs r x).kd row) q < v.ki
          by_cases er : row = r
          · rw [if_pos er]
            subst er
            rw [if_pos (by omega)] at b
            unfold kdW
            by_cases hq : fs ≤ q ∧ q < fs + (bk v.kb).d
            · simp only [hq, and_self, if_true]
              exact ⟨x4 q (by omega) hq.2 d, Nat.mod_lt _ hki⟩
            · simp only [hq, if_false]
              rw [x3 q (by omega)]
              exact w2 row q a (by rw [if_neg (by omega)]; omega) d
          · rw [if_neg er, x2 row q a er]
            refine w2 row q a ?_ d
            by_cases h3 : row < r
            · rw [if_pos h3]; rw [if_pos (by omega)] at b; exact b
            · rw [if_neg h3]; rw [if_neg (by omega)] at b; exact b
        | succ n ihn =>
          intro t X ht x1 x2 x3 x4 z6 hz6
          rw [show fs + (n + 1) = (fs + n) + 1 by omega, pk_m1] at hz6
          subst hz6
          obtain ⟨u1, u2⟩ := hUr r (by omega)
          have hpw := pw_le (r := v.ki) (i := t) (by omega) (by omega)
          have hp0 : 0 < v.ki ^ t := Nat.pow_pos hki
          have hel : e / v.ki ^ t ≤ e := Nat.div_le_self _ _
          have ed : nI (e / v.ki ^ t) / nI v.ki = nI (e / v.ki ^ (t + 1)) := by
            rw [pk_div (by omega) hki (by omega), Nat.div_div_eq_div_mul, Nat.pow_succ]
          show bl_P_readKinds_36 _ _ _ _ _ _ _ _ _ _ _ _ _
          unfold bl_P_readKinds_36
          simp only [vpU hθ hU hv, true_and, exists_eq_left]
          have nxt : ∀ Y, (∀ q, q ≠ tb θ + (vp + 4) → q ≠ tb θ + (vp + 5) → Y q = V q) → (∀ row q, row < R → row ≠ r → Y (tb θ + (vp + 4 + row)) q = W (tb θ + (vp + 4 + row)) q) → (∀ q, q < fs → Y (tb θ + (vp + 4 + r)) q = W (tb θ + (vp + 4 + r)) q) → (∀ q, fs + n ≤ q → q < fs + (bk v.kb).d → q < 64 → Y (tb θ + (vp + 4 + r)) q = nI (e / v.ki ^ (fs + (bk v.kb).d - 1 - q) % v.ki)) → wb_P_readKinds_66 θ (tb θ + vp) (tb θ + 25) (tb θ + (106 + 5 * v.kb)) (nI fs) (nI r) (nI (e / v.ki ^ t)) (nI (fs + n)) (wl_P_readKinds_3 θ (tb θ + vp) (tb θ + 25) (tb θ + (106 + 5 * v.kb)) (nI fs) K f) (wl_P_readKinds_36 θ (tb θ + vp) (tb θ + 25) (tb θ + (106 + 5 * v.kb)) (nI fs) (nI r) (wl_P_readKinds_3 θ (tb θ + vp) (tb θ + 25) (tb θ + (106 + 5 * v.kb)) (nI fs) K f) K (n + 1)) K (cS θ Y (pkR p (bk v.kb) (kdR p v bk fs r x).s).2) U := by
            intro Y y1 y2 y3 y4
            unfold wb_P_readKinds_66
            simp only [vpU hθ hU hv, true_and]
            rw [cS_ne (show tb θ + vp ≠ tb θ + 25 by omega), y1 _ (by omega) (by omega), v5, ed]
            refine ⟨nI_ne0 hki (by omega), fun y25 e25 y26 e26 => ?_⟩
            rw [e25, e26]
            exact ihn (t + 1) Y (by omega) y1 y2 y3 y4 _ rfl
          refine br_f (nI_nlt (by omega) (by omega)) (pk_le 64 (fs + n) (fun q64 => nxt X x1 x2 x3 (fun q a b d => by omega)) (fun q64 => ?_))
          rw [nI_clamp (show r < 2 ^ 31 by omega), u1, cS_ne (show tb θ + vp ≠ tb θ + 25 by omega), x1 _ (by omega) (by omega), v5, nI_clamp (show fs + n < 2 ^ 31 by omega), pk_rem (by omega) hki (by omega)]
          refine ⟨by omega, vp_in_nI (by omega) (by decide), by omega, nI_ne0 hki (by omega), 64, (u2 64).2 rfl, vp_in_nI (by omega) (by decide), fun V22 h22 => ?_⟩
          rw [cS_up (by omega)] at h22
          rw [h22]
          refine nxt _ (fun q a b => ?_) (fun row q a b => ?_) (fun q a => ?_) (fun q a b d => ?_)
          · have : q ≠ tb θ + (vp + 4 + r) := by omega
            rw [up2_ne this]; exact x1 q a b
          · rw [up2_ne (by omega)]; exact x2 row q a b
          · rw [up2_ab (by omega)]; exact x3 q a
          · by_cases eq : q = fs + n
            · subst eq
              rw [up2_aa, show fs + (bk v.kb).d - 1 - (fs + n) = t by omega]
            · rw [up2_ab eq]; exact x4 q (by omega) b d
      have hin0 := inner (bk v.kb).d 0 W (by omega) w1 (fun _ _ _ _ => rfl) (fun _ _ => rfl) (fun q a b _ => by omega) (nI (fs + (bk v.kb).d - 1)) (by
        have := pk_m1 (fs + (bk v.kb).d - 1)
        rw [show fs + (bk v.kb).d - 1 + 1 = fs + (bk v.kb).d by omega] at this
        exact this.symm)
      rw [Nat.pow_zero, Nat.div_one] at hin0
      exact ⟨_, hin0⟩
  · obtain ⟨W, rfl, w1, w2⟩ := hJ
    show bl_P_readKinds_3 _ _ _ _ _ _ _ _ _ _
    unfold bl_P_readKinds_3
    simp only [vpU hθ hU hv, true_and]
    rw [cS_ne (show tb θ + vp ≠ tb θ + 25 by omega), w1 _ (by omega) (by omega), v9]
    refine br_t (nI_le (Nat.le_refl _) (by omega)) (h W w1 (fun _ row q a b d => w2 row q a (by rw [if_pos a]; exact b) d))
end VROWS
