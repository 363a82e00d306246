-- the values of a block, one side
def vCs (v : VD) (c w : Nat) : Nat := if v.mo = 2 then c * w else w
def vNp (v : VD) (c w : Nat) : Nat := (min v.en (vCs v c w) - min v.be (vCs v c w)) / v.ps
def cov (g n : Nat) : Nat := (n + g - 1) / g * g
theorem cov_0 {g n : Nat} (hg : 1 ≤ g) (hg4 : g ≤ 4) (h : n % g = 0) : cov g n = n ∧ cov g (n + 1) = n + g := by
  have : g = 1 ∨ g = 2 ∨ g = 3 ∨ g = 4 := by omega
  unfold cov
  rcases this with rfl | rfl | rfl | rfl <;> omega
theorem cov_1 {g n : Nat} (hg : 1 ≤ g) (hg4 : g ≤ 4) (h : n % g ≠ 0) : cov g (n + 1) = cov g n ∧ n < cov g n := by
  have : g = 1 ∨ g = 2 ∨ g = 3 ∨ g = 4 := by omega
  unfold cov
  rcases this with rfl | rfl | rfl | rfl <;> omega
theorem cov_ge {g n : Nat} (hg : 1 ≤ g) (hg4 : g ≤ 4) : n ≤ cov g n := by
  have : g = 1 ∨ g = 2 ∨ g = 3 ∨ g = 4 := by omega
  unfold cov
  rcases this with rfl | rfl | rfl | rfl <;> omega
section SVALS
variable {θ : TH} {V : VT} {U : UT} {sw : Bool} {p : PK} {v : VD} {c B vp : Nat} {us : Nat → Bool} {bk : Nat → BD} {s : RS}
theorem vNp_b {w pp : Nat} (hps : 1 ≤ v.ps) (hw : w ≤ 32) (hc : c ≤ 2) (h : pp < vNp v c w) : v.be + pp * v.ps + v.ps ≤ vCs v c w := by
  unfold vNp at h
  have h1 : (pp + 1) * v.ps ≤ min v.en (vCs v c w) - min v.be (vCs v c w) := (Nat.le_div_iff_mul_le (by omega)).1 h
  rw [Nat.add_mul, Nat.one_mul] at h1
  omega
theorem vNp_le {w : Nat} (hps : 1 ≤ v.ps) (hen : v.en ≤ 63) : vNp v c w ≤ 63 := by
  unfold vNp
  have : (min v.en (vCs v c w) - min v.be (vCs v c w)) / v.ps ≤ (min v.en (vCs v c w) - min v.be (vCs v c w)) := Nat.div_le_self _ _
  omega
theorem KDc.le {W : VT} {R G G2 ki : Nat} {kd : Nat → Nat → Nat} (h : KDc θ W vp R G ki kd) (hG : G2 ≤ G) : KDc θ W vp R G2 ki kd := fun row q a b d => h row q a (by omega) d
set_option maxHeartbeats 4000000 in
theorem s_vals {K : VT → UT → Prop} (hθ : OKt θ) (hU : US θ sw U) (hv : vp = 78 ∨ vp = 94) (hp : HP θ V p) (hs : s.1 ≤ 8 * p.L) (hB : B ≤ 4) (hc : c ≤ 2) (hc0 : 0 < c) (hvp : VPP v B c bk) (hvc : VPC θ V vp c v) (hbk : ∀ k, k < B → BKP (bk k) ∧ BKC θ V k (bk k)) (hus : c = 1 → us 1 = false) {w : Nat} (hw : w ≤ 32) {vv : VT} (hvv : VVc θ V c vv) (h : ∀ W, (∀ q, q ≠ tb θ + vp → q ≠ tb θ + (vp + 2) → q ≠ tb θ + (vp + 4) → q ≠ tb θ + (vp + 5) → q ≠ tb θ + 104 → q ≠ tb θ + 105 → W q = V q) → (∀ j, j ≠ 9 → W (tb θ + vp) j = V (tb θ + vp) j) → VVc θ W c (vlF p v c us bk (vNp v c w) (s, (fun _ _ => 0), vv)).vv → K (cS θ W (vlF p v c us bk (vNp v c w) (s, (fun _ _ => 0), vv)).s) U) : wp_P_decode θ (tb θ + vp) (tb θ + 25) (tb θ + 67) (nI (unN us)) (tb θ + 103) (nI w) (cS θ V s) U K := by
  obtain ⟨z1, z2, z3, z4, z5, z6, z7, z8, z9, z10⟩ := hvp
  obtain ⟨hbp, hbc⟩ := hbk _ z8
  obtain ⟨a1, a2, a3, a4, a5⟩ := id hbp
  have hR67 := (vpU (v := 78) hθ hU (Or.inl rfl)).2.2.2.2.2.2.2.2.2.2.2.1
  have hR2 := vR_le (v := v) (c := c) (us := us)
  have hcw : c * w ≤ 2 * 32 := Nat.mul_le_mul hc hw
  have hCs : vCs v c w ≤ 64 := by unfold vCs; split <;> omega
  have hnp := vNp_le (v := v) (c := c) (w := w) z4 z3
  unfold wp_P_decode
  simp only [vpU hθ hU hv, true_and]
  refine s_rows hθ hU hv hvc hc hc0 z1 hus (fun W0 w1 w2 w3 w4 => ?_)
  obtain ⟨v0, v1, v2, v3, v4, v5, v6, v7, v8⟩ := hvc
  have f0 : ∀ j, j ≠ 9 → W0 (tb θ + vp) j = V (tb θ + vp) j := w2
  have hbk0 : ∀ k, k < B → BKP (bk k) ∧ BKC θ W0 k (bk k) := fun k hk => ⟨(hbk k hk).1, (hbk k hk).2.eq (w1 _ (by omega) (by omega)) (w1 _ (by omega) (by omega)) (w1 _ (by omega) (by omega))⟩
  have hp0 : HP θ W0 p := hp.eq (by rw [w1 _ (by omega) (by omega)]) (w1 _ (by omega) (by omega))
  have hvc0 : VPC θ W0 vp c v := VPC.eq (V := V) ⟨v0, v1, v2, v3, v4, v5, v6, v7, v8⟩ (fun j hj => f0 j (by omega)) (w1 _ (by omega) (by omega))
  have hvv0 : VVc θ W0 c vv := fun ch x a b => by rw [w1 _ (by omega) (by omega)]; exact hvv ch x a b
  have hUr : ∀ r, r < 2 → U (tb θ + (vp + 3)) r = tb θ + (vp + 4 + r) ∧ ∀ k, isA θ (tb θ + (vp + 4 + r)) 0 k ↔ k = 64 := by
    intro r hr
    have hvU := vpU (v := vp) hθ hU hv
    have : r = 0 ∨ r = 1 := by omega
    rcases this with rfl | rfl
    · exact ⟨hvU.2.2.2.2.1, hvU.2.2.2.2.2.2.2.2.2.1⟩
    · exact ⟨hvU.2.2.2.2.2.1, hvU.2.2.2.2.2.2.2.2.2.2.1⟩
  have hu := bkU (k := v.kb) hθ hU (by omega)
  -- frame behind the rows
  have fr : ∀ W, (∀ q, q ≠ tb θ + (vp + 4) → q ≠ tb θ + (vp + 5) → q ≠ tb θ + 104 → q ≠ tb θ + 105 → W q = W0 q) → HP θ W p ∧ (∀ k, k < B → BKP (bk k) ∧ BKC θ W k (bk k)) ∧ VPC θ W vp c v := by
    intro W hW
    exact ⟨hp0.eq (by rw [hW _ (by omega) (by omega) (by omega) (by omega)]) (hW _ (by omega) (by omega) (by omega) (by omega)), fun k hk => ⟨(hbk0 k hk).1, (hbk0 k hk).2.eq (hW _ (by omega) (by omega) (by omega) (by omega)) (hW _ (by omega) (by omega) (by omega) (by omega)) (hW _ (by omega) (by omega) (by omega) (by omega))⟩, hvc0.eq (fun j _ => by rw [hW _ (by omega) (by omega) (by omega) (by omega)]) (hW _ (by omega) (by omega) (by omega) (by omega))⟩
  -- the rows of one part
  have rows : ∀ (ps pp G : Nat) (y : VS) (W : VT) (x7 : Int32) (kb64 kb73 : Int32 → VT → UT → Prop), ps < 2 → pp < vNp v c w → y.s.1 ≤ 8 * p.L → (∀ q, q ≠ tb θ + (vp + 4) → q ≠ tb θ + (vp + 5) → q ≠ tb θ + 104 → q ≠ tb θ + 105 → W q = W0 q) → VVc θ W c y.vv → (y.s.2 = false → KDc θ W vp (vR v c us) G v.ki y.kd) → (y.s.2 = false → pp < G) → (∀ W', (∀ q, q ≠ tb θ + (vp + 4) → q ≠ tb θ + (vp + 5) → q ≠ tb θ + 104 → q ≠ tb θ + 105 → W' q = W0 q) → VVc θ W' c (roR p v c us bk ps pp (vR v c us) y).vv → (y.s.2 = false → KDc θ W' vp (vR v c us) G v.ki y.kd) → kb73 (nI (pp + 1)) (cS θ W' (roR p v c us bk ps pp (vR v c us) y).s) U) → ∃ n, wl_P_decode_115 θ (tb θ + vp) (tb θ + 25) (tb θ + 67) (tb θ + 103) x7 (tb θ + (106 + 5 * v.kb)) (nI ps) (nI pp) kb64 kb73 K n (0 : Int32) (cS θ W y.s) U := by
    intro ps pp G y W x7 kb64 kb73 hps hpp hy hW hvvW hkd hG hk
    refine loop1 (vR v c us) (fun r V1 => ∃ X, V1 = cS θ X (roR p v c us bk ps pp r y).s ∧ (∀ q, q ≠ tb θ + (vp + 4) → q ≠ tb θ + (vp + 5) → q ≠ tb θ + 104 → q ≠ tb θ + 105 → X q = W0 q) ∧ VVc θ X c (roR p v c us bk ps pp r y).vv ∧ (y.s.2 = false → KDc θ X vp (vR v c us) G v.ki y.kd)) ⟨W, rfl, hW, hvvW, hkd⟩ (fun f r V1 hr hJ hgo => ?_) (fun f V1 hJ => ?_)
    · obtain ⟨X, rfl, x1, x2, x3⟩ := hJ
      obtain ⟨hpX, hbX, hvX⟩ := fr X x1
      have hX9 : X (tb θ + vp) 9 = nI (vR v c us) := by rw [x1 _ (by omega) (by omega) (by omega) (by omega)]; exact w3
      show bl_P_decode_115 _ _ _ _ _ _ _ _ _ _ _ _ _ _ _ _
      unfold bl_P_decode_115
      simp only [vpU hθ hU hv, true_and]
      rw [cS_ne (show tb θ + vp ≠ tb θ + 25 by omega), hX9, cS_6]
      refine br_f (nI_ge hr (by omega)) ⟨fun q => ?_, fun q => ?_⟩
      · have ho : (roR p v c us bk ps pp r y).s.2 = true := by
          cases e : (roR p v c us bk ps pp r y).s.2
          · rw [e] at q; exact absurd rfl q
          · rfl
        intro y31 e31
        rw [e31, nI_1]
        have hst := roR_stop (p := p) (v := v) (c := c) (us := us) (bk := bk) (ps := ps) (pp := pp) (x := y) (r := r) ho (vR v c us - r)
        rw [show r + (vR v c us - r) = vR v c us by omega] at hst
        rw [hst] at hk
        exact hk X x1 x2 x3
      · have ho : (roR p v c us bk ps pp r y).s.2 = false := bZ_0.1 q
        have hy0 : y.s.2 = false := by
          cases e : y.s.2
          · rfl
          · have hst := roR_stop (p := p) (v := v) (c := c) (us := us) (bk := bk) (ps := ps) (pp := pp) (x := y) (r := 0) e r
            rw [Nat.zero_add] at hst
            rw [hst] at ho
            exact absurd (e.symm.trans ho) (by decide)
        have hppG := hG hy0
        obtain ⟨k1, k2⟩ := x3 hy0 r pp hr hppG (by omega)
        obtain ⟨u1, u2⟩ := hUr r (by omega)
        have hkl : y.kd r pp * 2 + ps < 2 * v.ki := by omega
        rw [nI_clamp (show r < 2 ^ 31 by omega), u1, nI_clamp (show pp < 2 ^ 31 by omega), cS_ne (show tb θ + (vp + 4 + r) ≠ tb θ + 25 by omega), k1, show (2 : Int32) = nI 2 from rfl, pk_mul, nI_add, nI_clamp (show y.kd r pp * 2 + ps < 2 ^ 31 by omega), cS_ne (show tb θ + (vp + 1) ≠ tb θ + 25 by omega), cS_ne (show tb θ + (vp + 2) ≠ tb θ + 25 by omega)]
        obtain ⟨q0, q1, q2, q3, q4, q5, q6, q7, q8⟩ := id hvX
        rw [q7 _ hkl]
        simp only [vpU hθ hU hv, true_and, exists_eq_left]
        refine ⟨by omega, by omega, vp_in_nI (by omega) (by decide), by omega, 64, (u2 64).2 rfl, vp_in_nI (by omega) (by decide), vp_in_nI (by omega) (by decide), fun y44 e44 => ?_⟩
        subst e44
        have eR : roR p v c us bk ps pp (r + 1) y = match v.pb ((roR p v c us bk ps pp r y).kd r pp * 2 + ps) with
          | none => roR p v c us bk ps pp r y
          | some m => ((faJ p v c us (bk m) r (v.be + pp * v.ps) (v.ps / (bk m).d) ((roR p v c us bk ps pp r y).s, (roR p v c us bk ps pp r y).vv)).1, (roR p v c us bk ps pp r y).kd, (faJ p v c us (bk m) r (v.be + pp * v.ps) (v.ps / (bk m).d) ((roR p v c us bk ps pp r y).s, (roR p v c us bk ps pp r y).vv)).2) := rfl
        rw [roR_kd] at eR
        cases hpb : v.pb (y.kd r pp * 2 + ps) with
        | none =>
          rw [hpb] at eR
          refine ⟨fun _ y46 e46 => ?_, fun z => absurd rfl z⟩
          rw [e46, nI_1]
          exact hgo _ ⟨X, by rw [eR], x1, by rw [eR]; exact x2, x3⟩
        | some m =>
          rw [hpb] at eR
          obtain ⟨m1, m2, m3⟩ := z9 _ m hkl hpb
          obtain ⟨mb1, mb2⟩ := hbX m m1
          have hum := bkU (k := m) hθ hU (by omega)
          refine ⟨fun z => absurd z (nI_nm1 (by omega)), fun _ => ?_⟩
          rw [show nO (some m) = nI m from rfl, nI_clamp (show m < 2 ^ 31 by omega), hum.2.2.2.2.2.2.2.2.2.1]
          refine ⟨vp_in_nI (by omega) (by decide), by omega, by omega, vp_in_nI (by omega) (by decide), ?_⟩
          refine s_fill (v := v) (c := c) (us := us) (bd := bk m) (r := r) (w := w) hθ hU hv hpX (roR_ok hy r) hc hc0 (by omega) mb1 mb2 m2 m3 hvX z1 z5 (by omega) (fun hm2 => ⟨?_, (vRc_lt hc0 hm2 hr).1⟩) hw (vNp_b z4 hw hc hpp) (by omega) x2 (fun Y y1 y2 => ?_)
          · rw [x1 _ (by omega) (by omega) (by omega) (by omega)]; exact w4 hm2 r hr
          · intro y57 e57
            rw [e57, nI_1]
            refine hgo _ ⟨Y, by rw [eR]; rfl, fun q a b d e => by rw [y1 q d e]; exact x1 q a b d e, by rw [eR]; exact y2, fun w => ?_⟩
            intro row q a b d
            rw [y1 _ (by omega) (by omega)]
            exact x3 w row q a b d
    · obtain ⟨X, rfl, x1, x2, x3⟩ := hJ
      have hX9 : X (tb θ + vp) 9 = nI (vR v c us) := by rw [x1 _ (by omega) (by omega) (by omega) (by omega)]; exact w3
      show bl_P_decode_115 _ _ _ _ _ _ _ _ _ _ _ _ _ _ _ _
      unfold bl_P_decode_115
      simp only [vpU hθ hU hv, true_and]
      rw [cS_ne (show tb θ + vp ≠ tb θ + 25 by omega), hX9]
      refine br_t (nI_le (Nat.le_refl _) (by omega)) (fun y28 e28 => ?_)
      rw [e28, nI_1]
      exact hk X x1 x2 x3
  -- the parts of one pass
  have parts : ∀ (ps : Nat) (x : VS) (W : VT) (kb64 : Int32 → VT → UT → Prop), ps < 2 → x.s.1 ≤ 8 * p.L → (∀ q, q ≠ tb θ + (vp + 4) → q ≠ tb θ + (vp + 5) → q ≠ tb θ + 104 → q ≠ tb θ + 105 → W q = W0 q) → VVc θ W c x.vv → (ps = 1 → x.s.2 = false → KDc θ W vp (vR v c us) (vNp v c w) v.ki x.kd) → (∀ W', (∀ q, q ≠ tb θ + (vp + 4) → q ≠ tb θ + (vp + 5) → q ≠ tb θ + 104 → q ≠ tb θ + 105 → W' q = W0 q) → VVc θ W' c (paR p v c us bk ps (vNp v c w) x).vv → (ps = 0 → (paR p v c us bk ps (vNp v c w) x).s.2 = false → KDc θ W' vp (vR v c us) (vNp v c w) v.ki (paR p v c us bk ps (vNp v c w) x).kd) → kb64 (nI (ps + 1)) (cS θ W' (paR p v c us bk ps (vNp v c w) x).s) U) → ∃ n, wl_P_decode_73 θ (tb θ + vp) (tb θ + 25) (tb θ + 67) (tb θ + 103) (nI (vNp v c w)) (tb θ + (106 + 5 * v.kb)) (nI ps) kb64 K n (0 : Int32) (cS θ W x.s) U := by
    intro ps x W kb64 hps hx hW hvvW hkd hk
    refine loop1 (vNp v c w) (fun pp V1 => ∃ X, V1 = cS θ X (paR p v c us bk ps pp x).s ∧ (∀ q, q ≠ tb θ + (vp + 4) → q ≠ tb θ + (vp + 5) → q ≠ tb θ + 104 → q ≠ tb θ + 105 → X q = W0 q) ∧ VVc θ X c (paR p v c us bk ps pp x).vv ∧ ((paR p v c us bk ps pp x).s.2 = false → KDc θ X vp (vR v c us) (if ps = 0 then cov (bk v.kb).d pp else vNp v c w) v.ki (paR p v c us bk ps pp x).kd)) ⟨W, rfl, hW, hvvW, fun hx0 => ?_⟩ (fun f pp V1 hpp hJ hgo => ?_) (fun f V1 hJ => ?_)
    · by_cases h0 : ps = 0
      · rw [if_pos h0]
        intro row q a b d
        have := (cov_0 (g := (bk v.kb).d) (n := 0) a3 a4 (Nat.zero_mod _)).1
        omega
      · rw [if_neg h0]; exact hkd (by omega) hx0
    · obtain ⟨X, rfl, x1, x2, x3⟩ := hJ
      obtain ⟨hpX, hbX, hvX⟩ := fr X x1
      have hxo := paR_ok (p := p) (v := v) (c := c) (us := us) (bk := bk) (ps := ps) hx pp
      show bl_P_decode_73 _ _ _ _ _ _ _ _ _ _ _ _ _ _
      unfold bl_P_decode_73
      simp only [hu, vpU hθ hU hv, true_and]
      rw [cS_6]
      refine br_f (nI_ge hpp (by omega)) ⟨fun q => ?_, fun q => ?_⟩
      · have ho : (paR p v c us bk ps pp x).s.2 = true := by
          cases e : (paR p v c us bk ps pp x).s.2
          · rw [e] at q; exact absurd rfl q
          · rfl
        intro y18 e18
        rw [e18, nI_1]
        have hst := paR_stop (p := p) (v := v) (c := c) (us := us) (bk := bk) (ps := ps) (x := x) (n := pp) ho (vNp v c w - pp)
        rw [show pp + (vNp v c w - pp) = vNp v c w by omega] at hst
        rw [hst] at hk
        exact hk X x1 x2 (fun _ w => absurd (ho.symm.trans w) (by decide))
      · have ho : (paR p v c us bk ps pp x).s.2 = false := bZ_0.1 q
        obtain ⟨q0, q1, q2, q3, q4, q5, q6, q7, q8⟩ := id hvX
        have hb2 := (hbX _ z8).2.2.1
        have eS : paR p v c us bk ps (pp + 1) x = roR p v c us bk ps pp (vR v c us) (paK p v c us bk ps pp (paR p v c us bk ps pp x)) := rfl
        rw [cS_ne (show tb θ + (106 + 5 * v.kb) ≠ tb θ + 25 by omega), hb2, pk_rem (by omega) a3 (by omega)]
        have e0 : nI (pp % (bk v.kb).d) = 0 ↔ pp % (bk v.kb).d = 0 := nI_eq (b := 0) (by have := Nat.mod_lt pp (show 0 < (bk v.kb).d from a3); omega) (by decide)
        have ep : nI ps = 0 ↔ ps = 0 := nI_eq (b := 0) (by omega) (by decide)
        rw [e0, ep]
        -- no kinds are read
        have plain : ¬ (ps = 0 ∧ pp % (bk v.kb).d = 0) → ∃ n, wl_P_decode_115 θ (tb θ + vp) (tb θ + 25) (tb θ + 67) (tb θ + 103) (nI (vNp v c w)) (tb θ + (106 + 5 * v.kb)) (nI ps) (nI pp) kb64 (wl_P_decode_73 θ (tb θ + vp) (tb θ + 25) (tb θ + 67) (tb θ + 103) (nI (vNp v c w)) (tb θ + (106 + 5 * v.kb)) (nI ps) kb64 K f) K n (0 : Int32) (cS θ X (paR p v c us bk ps pp x).s) U := by
          intro hn
          have eK : paK p v c us bk ps pp (paR p v c us bk ps pp x) = paR p v c us bk ps pp x := by unfold paK; rw [if_neg hn]
          rw [eK] at eS
          refine rows ps pp (if ps = 0 then cov (bk v.kb).d pp else vNp v c w) (paR p v c us bk ps pp x) X _ _ _ hps hpp hxo x1 x2 x3 (fun _ => ?_) (fun W' a b d => ?_)
          · by_cases h0 : ps = 0
            · rw [if_pos h0]; exact (cov_1 a3 a4 (fun z => hn ⟨h0, z⟩)).2
            · rw [if_neg h0]; exact hpp
          · refine hgo _ ⟨W', by rw [eS], a, by rw [eS]; exact b, fun _ => ?_⟩
            rw [eS, roR_kd]
            have := d ho
            by_cases h0 : ps = 0
            · rw [if_pos h0] at this ⊢; rw [(cov_1 a3 a4 (fun z => hn ⟨h0, z⟩)).1]; exact this
            · rw [if_neg h0] at this ⊢; exact this
        refine ⟨fun h0 => plain (fun z => h0 z.1), fun h0 => ⟨nI_ne0 a3 (by omega), fun h1 => plain (fun z => h1 z.2), fun h1 => ?_⟩⟩
        have eK : paK p v c us bk ps pp (paR p v c us bk ps pp x) = kdR p v bk pp (vR v c us) (paR p v c us bk ps pp x) := by unfold paK; rw [if_pos ⟨h0, h1⟩]
        rw [eK] at eS
        have x3' := x3 ho
        rw [if_pos h0, (cov_0 a3 a4 h1).1] at x3'
        refine s_kinds (bk := bk) (v := v) (R := vR v c us) (fs := pp) hθ hU hv hpX hxo (hbX _ z8).1 (hbX _ z8).2 (by omega) hR2 ?_ q5 z6 z7 (by omega) x3' (fun Y y1 y2 => ?_)
        · rw [x1 _ (by omega) (by omega) (by omega) (by omega)]; exact w3
        · refine rows ps pp (pp + (bk v.kb).d) (kdR p v bk pp (vR v c us) (paR p v c us bk ps pp x)) Y _ _ _ hps hpp (kdR_ok hxo _) (fun q a b d e => by rw [y1 q a b]; exact x1 q a b d e) (fun ch z a b => ?_) y2 (fun _ => by omega) (fun W' a b d => ?_)
          · rw [y1 _ (by omega) (by omega), kdR_vv]; exact x2 ch z a b
          · refine hgo _ ⟨W', by rw [eS], a, by rw [eS]; exact b, fun hno => ?_⟩
            rw [eS, roR_kd, if_pos h0, (cov_0 a3 a4 h1).2]
            refine d ?_
            cases e : (kdR p v bk pp (vR v c us) (paR p v c us bk ps pp x)).s.2
            · rfl
            · have hst := roR_stop (p := p) (v := v) (c := c) (us := us) (bk := bk) (ps := ps) (pp := pp) (x := kdR p v bk pp (vR v c us) (paR p v c us bk ps pp x)) (r := 0) e (vR v c us)
              rw [Nat.zero_add] at hst
              rw [eS, hst] at hno
              exact absurd (e.symm.trans hno) (by decide)
    · obtain ⟨X, rfl, x1, x2, x3⟩ := hJ
      show bl_P_decode_73 _ _ _ _ _ _ _ _ _ _ _ _ _ _
      unfold bl_P_decode_73
      refine br_t (nI_le (Nat.le_refl _) (by omega)) (fun y15 e15 => ?_)
      rw [e15, nI_1]
      refine hk X x1 x2 (fun h0 hno => ?_)
      have := x3 hno
      rw [if_pos h0] at this
      exact this.le (cov_ge a3 a4)
  have go : ∀ z : Int32, z = nI (vCs v c w) → wb_P_decode_25 θ (tb θ + vp) (tb θ + 25) (tb θ + 67) (tb θ + 103) z K (cS θ W0 s) U := by
    intro z hz
    subst hz
    unfold wb_P_decode_25
    simp only [vpU hθ hU hv, true_and, exists_eq_left]
    obtain ⟨q0, q1, q2, q3, q4, q5, q6, q7, q8⟩ := id hvc0
    rw [cS_ne (show tb θ + vp ≠ tb θ + 25 by omega), q2, q3, q4, q6, nI_clamp (show v.kb < 2 ^ 31 by omega), hu.2.2.2.2.2.2.2.2.2.1]
    have em : ∀ a : Nat, a ≤ 63 → (if nI (vCs v c w) < nI a then nI (vCs v c w) else nI a) = nI (min a (vCs v c w)) := by
      intro a ha
      by_cases q : vCs v c w < a
      · rw [if_pos (nI_lt q (by omega)), Nat.min_eq_right (by omega)]
      · rw [if_neg (nI_nlt (by omega) (by omega)), Nat.min_eq_left (by omega)]
    rw [em _ z3, em _ (by omega), pk_sub (by omega), pk_div (by omega) (by omega) (by omega)]
    refine ⟨nI_ne0 z4 (by omega), fun y7 e7 => ⟨vp_in_nI (by omega) (by decide), by omega, fun a12 e12 => ?_⟩⟩
    have e7' : y7 = nI (vNp v c w) := e7
    subst e7'
    subst e12
    refine ⟨3, ?_⟩
    show bl_P_decode_64 _ _ _ _ _ _ _ _ _ _ _ _
    unfold bl_P_decode_64
    refine br_f (by decide) (parts 0 (s, (fun _ _ => 0), vv) W0 _ (by decide) hs (fun _ _ _ _ _ => rfl) hvv0 (fun z => by cases z) (fun X x1 x2 x3 => ?_))
    show bl_P_decode_64 _ _ _ _ _ _ _ _ _ _ _ _
    unfold bl_P_decode_64
    refine br_f (by decide) (parts 1 (paR p v c us bk 0 (vNp v c w) (s, (fun _ _ => 0), vv)) X _ (by decide) (paR_ok (x := (s, _, _)) hs _) x1 x2 (fun _ w => x3 rfl w) (fun Y y1 y2 _ => ?_))
    show bl_P_decode_64 _ _ _ _ _ _ _ _ _ _ _ _
    unfold bl_P_decode_64
    refine br_t (by decide) (h Y (fun q a1 a2 a3 a4 a5 a6 => by rw [y1 q a3 a4 a5 a6, w1 q a1 a2]) (fun j hj => by rw [y1 _ (by omega) (by omega) (by omega) (by omega)]; exact w2 j hj) y2)
  rw [cS_ne (show tb θ + vp ≠ tb θ + 25 by omega), f0 1 (by decide), v1, f0 0 (by decide), v0, pk_mul]
  refine ⟨fun q => go _ ?_, fun q => go _ ?_⟩
  · unfold vCs; rw [if_neg (fun z => q (by rw [z]; rfl))]
  · unfold vCs; rw [if_pos ((nI_eq (b := 2) (by omega) (by decide)).1 q)]
end SVALS
