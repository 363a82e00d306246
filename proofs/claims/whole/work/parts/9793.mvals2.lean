-- the values of a block, the reference: all
section MVALS2
variable {θ : TH} {V : VT} {U : UT} {sw : Bool} {p : PK} {v : VD} {c B la : Nat} {us : Nat → Bool} {bk : Nat → BD} {s : RS}
def KDm (θ : TH) (W : VT) (R G n ki : Nat) (kd : Nat → Nat → Nat) : Prop := ∀ row q, row < R → q < G → q < n → W (tb θ + 165) (64 * row + q) = nI (kd row q) ∧ kd row q < ki
theorem paK_n {ps pp : Nat} {x : VS} (h : ¬ (ps = 0 ∧ pp % (bk v.kb).d = 0)) : paK p v c us bk ps pp x = x := by unfold paK; rw [if_neg h]
set_option maxHeartbeats 8000000 in
theorem m_vals {K : VT → UT → Prop} (hθ : OKt θ) (hU : US θ sw U) (hla : la ≤ 48) (h53 : V (tb θ + 126) 53 = nI la) (h41 : V (tb θ + 126) 41 = nI c) (hp : MP θ V p) (hs : s.1 ≤ 8 * p.L) (hB : B ≤ 4) (hc : c ≤ 2) (hc0 : 0 < c) (hvp : VPP v B c bk) (hvm : VPM θ V la v) (hbk : ∀ k, k < B → BKP (bk k) ∧ BKM θ V k (bk k)) (h158 : ∀ ch, ch < 2 → V (tb θ + 158) ch = bZ (us ch)) (hus : c = 1 → us 1 = false) {sz w : Nat} (h57 : V (tb θ + 126) 57 = nI sz) (hsz : sz = 2 * w) (hw : w ≤ 32) {vv : VT} (hvv : VVm θ V c vv) (h : ∀ W, (∀ q, q ≠ tb θ + 126 → q ≠ tb θ + 160 → q ≠ tb θ + 164 → q ≠ tb θ + 165 → W q = V q) → (∀ j, j ≠ 65 → W (tb θ + 126) j = V (tb θ + 126) j) → VVm θ W c (vlF p v c us bk (vNp v c w) (s, (fun _ _ => 0), vv)).vv → K (mS θ W (vlF p v c us bk (vNp v c w) (s, (fun _ _ => 0), vv)).s) U) : wp_M_values θ (tb θ + 126) (mS θ V s) U K := by
  obtain ⟨z1, z2, z3, z4, z5, z6, z7, z8, z9, z10⟩ := hvp
  obtain ⟨hbp, hbm⟩ := hbk _ z8
  obtain ⟨a1, a2, a3, a4, a5⟩ := id hbp
  have hR2 := vR_le (v := v) (c := c) (us := us)
  have hcw : c * w ≤ 2 * 32 := Nat.mul_le_mul hc hw
  have hCs : vCs v c w ≤ 64 := by unfold vCs; split <;> omega
  have hnp := vNp_le (v := v) (c := c) (w := w) z4 z3
  have i30 : nI la + (30 : Int32) = nI (la + 30) := nI_add la 30
  have i31 : nI la + (31 : Int32) = nI (la + 31) := nI_add la 31
  have i32 : nI la + (32 : Int32) = nI (la + 32) := nI_add la 32
  have i33 : nI la + (33 : Int32) = nI (la + 33) := nI_add la 33
  have i35 : nI la + (35 : Int32) = nI (la + 35) := nI_add la 35
  have i36 : nI la + (36 : Int32) = nI (la + 36) := nI_add la 36
  have e126 : ∀ X t j x, X (tb θ + 126) j = x → j ≠ 39 → j ≠ 40 → mS θ X t (tb θ + 126) j = x := fun X t j x hX a b => by rw [mS_j a b]; exact hX
  unfold wp_M_values
  simp only [IM hθ, true_and]
  refine m_rows hθ hU hla h53 h41 hvm hc hc0 z1 h158 hus (fun W0 w1 w2 w3 w4 => ?_)
  have hvm0 : VPM θ W0 la v := hvm.eq (w1 _ (by omega) (by omega))
  obtain ⟨v1, v2, v3, v4, v5, v6, v7, v8⟩ := id hvm0
  have hp0 : MP θ W0 p := hp.eq (w2 36 (by decide)) (w1 _ (by omega) (by omega))
  have hbk0 : ∀ k, k < B → BKP (bk k) ∧ BKM θ W0 k (bk k) := fun k hk => ⟨(hbk k hk).1, (hbk k hk).2.eq (fun a _ _ => w1 _ (by omega) (by omega))⟩
  have hvv0 : VVm θ W0 c vv := fun ch x a b => by rw [w1 _ (by omega) (by omega)]; exact hvv ch x a b
  have w53 : W0 (tb θ + 126) 53 = nI la := by rw [w2 53 (by decide)]; exact h53
  have w41 : W0 (tb θ + 126) 41 = nI c := by rw [w2 41 (by decide)]; exact h41
  have w57 : W0 (tb θ + 126) 57 = nI sz := by rw [w2 57 (by decide)]; exact h57
  have fr : ∀ W, (∀ q, q ≠ tb θ + 160 → q ≠ tb θ + 165 → W q = W0 q) → MP θ W p ∧ (∀ k, k < B → BKP (bk k) ∧ BKM θ W k (bk k)) ∧ VPM θ W la v ∧ W (tb θ + 126) 53 = nI la ∧ W (tb θ + 126) 41 = nI c ∧ W (tb θ + 126) 65 = nI (vR v c us) := by
    intro W hW
    exact ⟨hp0.eq (by rw [hW _ (by omega) (by omega)]) (hW _ (by omega) (by omega)), fun k hk => ⟨(hbk0 k hk).1, (hbk0 k hk).2.eq (fun a _ _ => hW _ (by omega) (by omega))⟩, hvm0.eq (hW _ (by omega) (by omega)), by rw [hW _ (by omega) (by omega)]; exact w53, by rw [hW _ (by omega) (by omega)]; exact w41, by rw [hW _ (by omega) (by omega)]; exact w3⟩
  -- the rows of one part
  have rows : ∀ (ps pp G fs : Nat) (y : VS) (W : VT) (kb1 kb2 kb3 : Int32 → Int32 → VT → UT → Prop), ps < 2 → pp < vNp v c w → y.s.1 ≤ 8 * p.L → (∀ q, q ≠ tb θ + 160 → q ≠ tb θ + 165 → W q = W0 q) → VVm θ W c y.vv → (y.s.2 = false → KDm θ W (vR v c us) G (vNp v c w) v.ki y.kd) → (y.s.2 = false → pp < G) → (∀ W', (∀ q, q ≠ tb θ + 160 → q ≠ tb θ + 165 → W' q = W0 q) → VVm θ W' c (roR p v c us bk ps pp (vR v c us) y).vv → (y.s.2 = false → KDm θ W' (vR v c us) G (vNp v c w) v.ki y.kd) → kb3 (bZ (!(roR p v c us bk ps pp (vR v c us) y).s.2)) (nI (pp + 1)) (mS θ W' (roR p v c us bk ps pp (vR v c us) y).s) U) → ∃ n, wl_M_values_253 θ (tb θ + 126) (nI (min v.be (vCs v c w))) (nI (vNp v c w)) (nI (bk v.kb).d) (nI ps) (nI fs) (nI pp) kb1 kb2 kb3 K n (bZ (!y.s.2)) (0 : Int32) (mS θ W y.s) U := by
    intro ps pp G fs y W kb1 kb2 kb3 hps hpp hy hW hvvW hkd hG hk
    have hcb := vNp_b (v := v) (c := c) (w := w) z4 hw hc hpp
    have hlo : min v.be (vCs v c w) = v.be := by omega
    have hppm : pp * v.ps ≤ 63 * 8 := Nat.mul_le_mul (by omega) z5
    refine loop2 (a := bZ (!y.s.2)) (vR v c us) (fun r b V1 => b = bZ (!(roR p v c us bk ps pp r y).s.2) ∧ ∃ X, V1 = mS θ X (roR p v c us bk ps pp r y).s ∧ (∀ q, q ≠ tb θ + 160 → q ≠ tb θ + 165 → X q = W0 q) ∧ VVm θ X c (roR p v c us bk ps pp r y).vv ∧ (y.s.2 = false → KDm θ X (vR v c us) G (vNp v c w) v.ki y.kd)) ⟨rfl, W, rfl, hW, hvvW, hkd⟩ (fun f r b V1 hr hJ hgo => ?_) (fun f b V1 hJ => ?_)
    · obtain ⟨rfl, X, rfl, x1, x2, x3⟩ := hJ
      obtain ⟨hpX, hbX, hvX, X53, X41, X65⟩ := fr X x1
      show bl_M_values_253 _ _ _ _ _ _ _ _ _ _ _ _ _ _ _ _ _
      unfold bl_M_values_253 wb_M_values_333
      simp only [UM hU, IM hθ, true_and, exists_eq_left]
      rw [e126 X _ 65 _ X65 (by decide) (by decide), e126 X _ 53 (nI la) X53 (by decide) (by decide)]
      refine br_f (nI_ge hr (by omega)) ?_
      cases ho : (roR p v c us bk ps pp r y).s.2
      · have hy0 : y.s.2 = false := by
          cases e : y.s.2
          · rfl
          · have hst := roR_stop (p := p) (v := v) (c := c) (us := us) (bk := bk) (ps := ps) (pp := pp) (x := y) (r := 0) e r
            rw [Nat.zero_add] at hst
            rw [hst] at ho
            exact absurd (e.symm.trans ho) (by decide)
        refine ⟨fun z => absurd z (by decide), fun _ => ?_⟩
        have hppG := hG hy0
        obtain ⟨k1, k2⟩ := x3 hy0 r pp hr hppG hpp
        obtain ⟨q1, q2, q3, q4, q5, q6, q7, q8⟩ := id hvX
        have hkl : 2 * y.kd r pp + ps < 2 * v.ki := by omega
        rw [show (64 : Int32) * nI r = nI (64 * r) from pk_mul 64 r, nI_add, nI_clamp (show 64 * r + pp < 2 ^ 31 by omega), mS_ne (show tb θ + 165 ≠ tb θ + 126 by omega), k1, show (2 : Int32) * nI (y.kd r pp) = nI (2 * y.kd r pp) from pk_mul 2 _, i36, nI_add, nI_add, nI_clamp (show la + 36 + 2 * y.kd r pp + ps < 2 ^ 31 by omega), mS_ne (show tb θ + 157 ≠ tb θ + 126 by omega), show la + 36 + 2 * y.kd r pp + ps = la + 36 + (2 * y.kd r pp + ps) by omega, q7 _ hkl, i33, nI_clamp (show la + 33 < 2 ^ 31 by omega), q4, pk_mul, nI_add, hlo]
        refine ⟨by omega, by omega, vp_in_nI (by omega) (by decide), vp_in_nI (by omega) (by decide), fun y67 e67 => ?_⟩
        subst e67
        have eR : roR p v c us bk ps pp (r + 1) y = match v.pb ((roR p v c us bk ps pp r y).kd r pp * 2 + ps) with
          | none => roR p v c us bk ps pp r y
          | some m => ((faJ p v c us (bk m) r (v.be + pp * v.ps) (v.ps / (bk m).d) ((roR p v c us bk ps pp r y).s, (roR p v c us bk ps pp r y).vv)).1, (roR p v c us bk ps pp r y).kd, (faJ p v c us (bk m) r (v.be + pp * v.ps) (v.ps / (bk m).d) ((roR p v c us bk ps pp r y).s, (roR p v c us bk ps pp r y).vv)).2) := rfl
        rw [roR_kd, Nat.mul_comm (y.kd r pp) 2] at eR
        cases hpb : v.pb (2 * y.kd r pp + ps) with
        | none =>
          rw [hpb] at eR
          refine ⟨fun _ y75 e75 => ?_, fun z => absurd (by decide) z⟩
          rw [e75, nI_1]
          have eR' : roR p v c us bk ps pp (r + 1) y = roR p v c us bk ps pp r y := eR
          have hh := hgo 1 (mS θ X (roR p v c us bk ps pp r y).s) ⟨(by rw [eR', ho]; rfl), X, by rw [eR'], x1, by rw [eR']; exact x2, x3⟩
          rw [hlo] at hh
          exact hh
        | some m =>
          rw [hpb] at eR
          obtain ⟨m1, m2, m3⟩ := z9 _ m hkl hpb
          obtain ⟨mb1, mb2⟩ := hbX m m1
          refine ⟨fun z => absurd z (nI_pos (by omega)), fun _ => ⟨vp_in_nI (by omega) (by decide), ?_⟩⟩
          refine m_fill (v := v) (c := c) (us := us) (bd := bk m) (r := r) (w := w) (m := m) hθ hU hla X53 X41 hpX (roR_ok hy r) ho hc hc0 (by omega) mb1 mb2 m2 m3 hvX z1 z4 z5 (by omega) (by omega) (fun hm2 => ⟨?_, (vRc_lt hc0 hm2 hr).1⟩) hw hcb (by omega) x2 (fun Y y1 y2 => ?_)
          · rw [x1 _ (by omega) (by omega)]; exact w4 hm2 r hr
          · have KD' : y.s.2 = false → KDm θ Y (vR v c us) G (vNp v c w) v.ki y.kd := by
              intro w row q a b d
              rw [y1 _ (by omega)]
              exact x3 w row q a b d
            have nx : ∀ b : Int32, b = bZ (!(roR p v c us bk ps pp (r + 1) y).s.2) → ∀ y74 : Int32, y74 = nI r + 1 → wl_M_values_253 θ (tb θ + 126) (nI v.be) (nI (vNp v c w)) (nI (bk v.kb).d) (nI ps) (nI fs) (nI pp) kb1 kb2 kb3 K f b y74 (mS θ Y (roR p v c us bk ps pp (r + 1) y).s) U := by
              intro b hb y74 e74
              rw [e74, nI_1]
              have := hgo b (mS θ Y (roR p v c us bk ps pp (r + 1) y).s) ⟨hb, Y, rfl, fun q a b => by rw [y1 q a]; exact x1 q a b, by rw [eR]; exact y2, KD'⟩
              rw [hlo] at this
              exact this
            rw [eR] at nx
            cases hf : (faJ p v c us (bk m) r (v.be + pp * v.ps) (v.ps / (bk m).d) ((roR p v c us bk ps pp r y).s, (roR p v c us bk ps pp r y).vv)).1.2
            · exact ⟨fun z => absurd z (by decide), fun _ => nx 1 (by show _ = bZ (!(faJ p v c us (bk m) r (v.be + pp * v.ps) (v.ps / (bk m).d) ((roR p v c us bk ps pp r y).s, (roR p v c us bk ps pp r y).vv)).1.2); rw [hf]; rfl)⟩
            · exact ⟨fun _ => nx 0 (by show _ = bZ (!(faJ p v c us (bk m) r (v.be + pp * v.ps) (v.ps / (bk m).d) ((roR p v c us bk ps pp r y).s, (roR p v c us bk ps pp r y).vv)).1.2); rw [hf]; rfl), fun z => absurd rfl z⟩
      · have hst := roR_stop (p := p) (v := v) (c := c) (us := us) (bk := bk) (ps := ps) (pp := pp) (x := y) (r := r) ho (vR v c us - r)
        rw [show r + (vR v c us - r) = vR v c us by omega] at hst
        refine ⟨fun _ y58 e58 => ?_, fun z => absurd rfl z⟩
        rw [e58, nI_1]
        rw [hst, ho] at hk
        exact hk X x1 x2 x3
    · obtain ⟨rfl, X, rfl, x1, x2, x3⟩ := hJ
      obtain ⟨hpX, hbX, hvX, X53, X41, X65⟩ := fr X x1
      show bl_M_values_253 _ _ _ _ _ _ _ _ _ _ _ _ _ _ _ _ _
      unfold bl_M_values_253
      simp only [IM hθ, true_and]
      rw [e126 X _ 65 _ X65 (by decide) (by decide)]
      refine br_t (nI_le (Nat.le_refl _) (by omega)) (fun y56 e56 => ?_)
      rw [e56, nI_1]
      exact hk X x1 x2 x3
  -- one pass
  have pass : ∀ (ps : Nat) (x : VS) (W : VT) (kb1 : Int32 → Int32 → VT → UT → Prop), ps < 2 → x.s.1 ≤ 8 * p.L → (∀ q, q ≠ tb θ + 160 → q ≠ tb θ + 165 → W q = W0 q) → VVm θ W c x.vv → (ps = 1 → x.s.2 = false → KDm θ W (vR v c us) (vNp v c w) (vNp v c w) v.ki x.kd) → (∀ W', (∀ q, q ≠ tb θ + 160 → q ≠ tb θ + 165 → W' q = W0 q) → VVm θ W' c (paR p v c us bk ps (vNp v c w) x).vv → (ps = 0 → (paR p v c us bk ps (vNp v c w) x).s.2 = false → KDm θ W' (vR v c us) (vNp v c w) (vNp v c w) v.ki (paR p v c us bk ps (vNp v c w) x).kd) → kb1 (bZ (!(paR p v c us bk ps (vNp v c w) x).s.2)) (nI (ps + 1)) (mS θ W' (paR p v c us bk ps (vNp v c w) x).s) U) → ∃ n, wl_M_values_170 θ (tb θ + 126) (nI (min v.be (vCs v c w))) (nI (vNp v c w)) (nI (bk v.kb).d) (nI ps) kb1 K n (bZ (!x.s.2)) (0 : Int32) (mS θ W x.s) U := by
    intro ps x W kb1 hps hx hW hvvW hkd hk
    have grp : ∀ d fs X, vNp v c w ≤ fs + d → fs ≤ vNp v c w + 3 → fs % (bk v.kb).d = 0 → (∀ q, q ≠ tb θ + 160 → q ≠ tb θ + 165 → X q = W0 q) → VVm θ X c (paR p v c us bk ps (min fs (vNp v c w)) x).vv → ((paR p v c us bk ps (min fs (vNp v c w)) x).s.2 = false → KDm θ X (vR v c us) (if ps = 0 then fs else vNp v c w) (vNp v c w) v.ki (paR p v c us bk ps (min fs (vNp v c w)) x).kd) → wl_M_values_170 θ (tb θ + 126) (nI (min v.be (vCs v c w))) (nI (vNp v c w)) (nI (bk v.kb).d) (nI ps) kb1 K (d + 1) (bZ (!(paR p v c us bk ps (min fs (vNp v c w)) x).s.2)) (nI fs) (mS θ X (paR p v c us bk ps (min fs (vNp v c w)) x).s) U := by
      intro d
      induction d with
      | zero =>
        intro fs X hd hf3 hfm x1 x2 x3
        rw [show min fs (vNp v c w) = vNp v c w by omega] at x2 x3 ⊢
        show bl_M_values_170 _ _ _ _ _ _ _ _ _ _ _ _ _
        unfold bl_M_values_170
        refine br_t (nI_le (by omega) (by omega)) (fun y39 e39 => ?_)
        rw [e39, nI_1]
        refine hk X x1 x2 (fun h0 hno => ?_)
        have := x3 hno
        rw [if_pos h0] at this
        exact fun row q a b e => this row q a (by omega) e
      | succ d ihd =>
        intro fs X hd hf3 hfm x1 x2 x3
        show bl_M_values_170 _ _ _ _ _ _ _ _ _ _ _ _ _
        unfold bl_M_values_170
        by_cases hfn : vNp v c w ≤ fs
        · rw [show min fs (vNp v c w) = vNp v c w by omega] at x2 x3 ⊢
          refine br_t (nI_le hfn (by omega)) (fun y39 e39 => ?_)
          rw [e39, nI_1]
          refine hk X x1 x2 (fun h0 hno => ?_)
          have := x3 hno
          rw [if_pos h0] at this
          exact fun row q a b e => this row q a (by omega) e
        · rw [show min fs (vNp v c w) = fs by omega] at x2 x3 ⊢
          refine br_f (nI_ge (by omega) (by omega)) ?_
          cases ho : (paR p v c us bk ps fs x).s.2
          · refine ⟨fun z => absurd z (by decide), fun _ => ?_⟩
            have hxo := paR_ok (p := p) (v := v) (c := c) (us := us) (bk := bk) (ps := ps) hx fs
            have x3' := x3 ho
            -- the parts of the group, the kinds are there
            have sub : ∀ e q X, q + e = min (fs + (bk v.kb).d) (vNp v c w) → fs ≤ q → ∀ y : VS, y = (if q = fs then paK p v c us bk ps fs (paR p v c us bk ps fs x) else paR p v c us bk ps q x) → (∀ a, a ≠ tb θ + 160 → a ≠ tb θ + 165 → X a = W0 a) → VVm θ X c y.vv → (y.s.2 = false → KDm θ X (vR v c us) (if ps = 0 then fs + (bk v.kb).d else vNp v c w) (vNp v c w) v.ki y.kd) → wl_M_values_228 θ (tb θ + 126) (nI (min v.be (vCs v c w))) (nI (vNp v c w)) (nI (bk v.kb).d) (nI ps) (nI fs) kb1 (wl_M_values_170 θ (tb θ + 126) (nI (min v.be (vCs v c w))) (nI (vNp v c w)) (nI (bk v.kb).d) (nI ps) kb1 K (d + 1)) K (e + 1) (bZ (!y.s.2)) (nI q) (mS θ X y.s) U := by
              intro e
              induction e with
              | zero =>
                intro q X hq hqf y hy y1 y2 y3
                have hqn : q ≠ fs := by omega
                rw [if_neg hqn] at hy
                subst hy
                have hmin : q = min (fs + (bk v.kb).d) (vNp v c w) := by omega
                show bl_M_values_228 _ _ _ _ _ _ _ _ _ _ _ _ _ _ _
                unfold bl_M_values_228 wb_M_values_352
                rw [nI_add]
                have fin : ∀ y53 : Int32, y53 = nI fs + nI (bk v.kb).d → wl_M_values_170 θ (tb θ + 126) (nI (min v.be (vCs v c w))) (nI (vNp v c w)) (nI (bk v.kb).d) (nI ps) kb1 K (d + 1) (bZ (!(paR p v c us bk ps q x).s.2)) y53 (mS θ X (paR p v c us bk ps q x).s) U := by
                  intro y53 e53
                  rw [e53, nI_add]
                  have := ihd (fs + (bk v.kb).d) X (by omega) (by omega) (by rw [Nat.add_mod_right]; exact hfm) y1 (by rw [← hmin]; exact y2) (by rw [← hmin]; exact y3)
                  rw [← hmin] at this
                  exact this
                rw [nI_add] at fin
                refine ⟨fun _ => fin, fun z => ⟨fun _ => fin, fun z2 => ?_⟩⟩
                exfalso
                by_cases h1 : fs + (bk v.kb).d ≤ q
                · exact z (nI_le h1 (by omega))
                · exact z2 (nI_le (by omega) (by omega))
              | succ e ihe =>
                intro q X hq hqf y hy y1 y2 y3
                have hyo : y.s.1 ≤ 8 * p.L := by
                  rw [hy]; split
                  · exact paK_ok hxo
                  · exact paR_ok hx q
                have eS : paR p v c us bk ps (q + 1) x = roR p v c us bk ps q (vR v c us) y := by
                  show paS p v c us bk ps q (paR p v c us bk ps q x) = _
                  unfold paS
                  by_cases h1 : q = fs
                  · rw [if_pos h1] at hy; rw [hy, h1]
                  · rw [if_neg h1] at hy
                    rw [paK_n (by
                      intro z
                      have hd1 : (bk v.kb).d = 1 ∨ (bk v.kb).d = 2 ∨ (bk v.kb).d = 3 ∨ (bk v.kb).d = 4 := by omega
                      have z2 := z.2
                      rcases hd1 with e1 | e1 | e1 | e1 <;> rw [e1] at z2 hfm hq <;> omega), hy]
                show bl_M_values_228 _ _ _ _ _ _ _ _ _ _ _ _ _ _ _
                unfold bl_M_values_228 wb_M_values_352
                rw [nI_add]
                refine br_f (nI_ge (by omega) (by omega)) (br_f (nI_ge (by omega) (by omega)) ?_)
                cases hyz : y.s.2
                · refine ⟨fun z => absurd z (by decide), fun _ => ?_⟩
                  have hrw := rows ps q (if ps = 0 then fs + (bk v.kb).d else vNp v c w) fs y X kb1 (wl_M_values_170 θ (tb θ + 126) (nI (min v.be (vCs v c w))) (nI (vNp v c w)) (nI (bk v.kb).d) (nI ps) kb1 K (d + 1)) (wl_M_values_228 θ (tb θ + 126) (nI (min v.be (vCs v c w))) (nI (vNp v c w)) (nI (bk v.kb).d) (nI ps) (nI fs) kb1 (wl_M_values_170 θ (tb θ + 126) (nI (min v.be (vCs v c w))) (nI (vNp v c w)) (nI (bk v.kb).d) (nI ps) kb1 K (d + 1)) K (e + 1)) hps (by omega) hyo y1 y2 y3 (fun _ => by by_cases h0 : ps = 0; rw [if_pos h0]; omega; rw [if_neg h0]; omega) (fun W' b1 b2 b3 => ?_)
                  · rw [hyz] at hrw; exact hrw
                  · rw [← eS] at b2 ⊢
                    refine ihe (q + 1) W' (by omega) (by omega) _ (by rw [if_neg (by omega)]) b1 b2 (fun _ => ?_)
                    rw [eS, roR_kd]
                    exact b3 hyz
                · -- out: nothing more
                  have hst : paR p v c us bk ps (vNp v c w) x = y := by
                    by_cases h1 : q = fs
                    · rw [if_pos h1] at hy
                      have e1 : paR p v c us bk ps (fs + 1) x = y := by
                        rw [← h1, eS]
                        have := roR_stop (p := p) (v := v) (c := c) (us := us) (bk := bk) (ps := ps) (pp := q) (x := y) (r := 0) hyz (vR v c us)
                        rw [Nat.zero_add] at this; exact this
                      have := paR_stop (p := p) (v := v) (c := c) (us := us) (bk := bk) (ps := ps) (x := x) (n := fs + 1) (by rw [e1]; exact hyz) (vNp v c w - (fs + 1))
                      rw [show fs + 1 + (vNp v c w - (fs + 1)) = vNp v c w by omega, e1] at this
                      exact this
                    · rw [if_neg h1] at hy
                      have := paR_stop (p := p) (v := v) (c := c) (us := us) (bk := bk) (ps := ps) (x := x) (n := q) (by rw [← hy]; exact hyz) (vNp v c w - q)
                      rw [show q + (vNp v c w - q) = vNp v c w by omega, ← hy] at this
                      exact this
                  refine ⟨fun _ y53 e53 => ?_, fun z => absurd rfl z⟩
                  rw [e53]
                  have hst2 : paR p v c us bk ps (min (fs + (bk v.kb).d) (vNp v c w)) x = y := by
                    by_cases h1 : q = fs
                    · rw [if_pos h1] at hy
                      have e1 : paR p v c us bk ps (fs + 1) x = y := by
                        rw [← h1, eS]
                        have := roR_stop (p := p) (v := v) (c := c) (us := us) (bk := bk) (ps := ps) (pp := q) (x := y) (r := 0) hyz (vR v c us)
                        rw [Nat.zero_add] at this; exact this
                      have := paR_stop (p := p) (v := v) (c := c) (us := us) (bk := bk) (ps := ps) (x := x) (n := fs + 1) (by rw [e1]; exact hyz) (min (fs + (bk v.kb).d) (vNp v c w) - (fs + 1))
                      rw [show fs + 1 + (min (fs + (bk v.kb).d) (vNp v c w) - (fs + 1)) = min (fs + (bk v.kb).d) (vNp v c w) by omega, e1] at this
                      exact this
                    · rw [if_neg h1] at hy
                      have := paR_stop (p := p) (v := v) (c := c) (us := us) (bk := bk) (ps := ps) (x := x) (n := q) (by rw [← hy]; exact hyz) (min (fs + (bk v.kb).d) (vNp v c w) - q)
                      rw [show q + (min (fs + (bk v.kb).d) (vNp v c w) - q) = min (fs + (bk v.kb).d) (vNp v c w) by omega, ← hy] at this
                      exact this
                  have := ihd (fs + (bk v.kb).d) X (by omega) (by omega) (by rw [Nat.add_mod_right]; exact hfm) y1 (by rw [hst2]; exact y2) (by rw [hst2]; intro z; rw [hyz] at z; cases z)
                  rw [hst2, hyz] at this
                  exact this
            have sub0 : ∀ (X : VT) (y : VS), y = paK p v c us bk ps fs (paR p v c us bk ps fs x) → (∀ a, a ≠ tb θ + 160 → a ≠ tb θ + 165 → X a = W0 a) → VVm θ X c y.vv → (y.s.2 = false → KDm θ X (vR v c us) (if ps = 0 then fs + (bk v.kb).d else vNp v c w) (vNp v c w) v.ki y.kd) → ∃ n, wl_M_values_228 θ (tb θ + 126) (nI (min v.be (vCs v c w))) (nI (vNp v c w)) (nI (bk v.kb).d) (nI ps) (nI fs) kb1 (wl_M_values_170 θ (tb θ + 126) (nI (min v.be (vCs v c w))) (nI (vNp v c w)) (nI (bk v.kb).d) (nI ps) kb1 K (d + 1)) K n (bZ (!y.s.2)) (nI fs) (mS θ X y.s) U := fun X y hy y1 y2 y3 => ⟨_, sub (min (fs + (bk v.kb).d) (vNp v c w) - fs) fs X (by omega) (Nat.le_refl _) y (by rw [if_pos rfl]; exact hy) y1 y2 y3⟩
            by_cases h0 : ps = 0
            · -- the kinds are read, row by row
              have eK : paK p v c us bk ps fs (paR p v c us bk ps fs x) = kdR p v bk fs (vR v c us) (paR p v c us bk ps fs x) := by unfold paK; rw [if_pos ⟨h0, hfm⟩]
              rw [if_pos h0] at x3'
              have hone : (1 : Int32) = bZ (!(kdR p v bk fs 0 (paR p v c us bk ps fs x)).s.2) := by
                show _ = bZ (!(paR p v c us bk ps fs x).s.2); rw [ho]; rfl
              have lp : ∃ n, wl_M_values_185 θ (tb θ + 126) (nI (min v.be (vCs v c w))) (nI (vNp v c w)) (nI (bk v.kb).d) (nI ps) (nI fs) kb1 (wl_M_values_170 θ (tb θ + 126) (nI (min v.be (vCs v c w))) (nI (vNp v c w)) (nI (bk v.kb).d) (nI ps) kb1 K (d + 1)) K n (1 : Int32) (0 : Int32) (mS θ X (paR p v c us bk ps fs x).s) U := by
                refine loop2 (a := (1 : Int32)) (vR v c us) (fun r b V1 => b = bZ (!(kdR p v bk fs r (paR p v c us bk ps fs x)).s.2) ∧ ∃ Y, V1 = mS θ Y (kdR p v bk fs r (paR p v c us bk ps fs x)).s ∧ (∀ a, a ≠ tb θ + 160 → a ≠ tb θ + 165 → Y a = W0 a) ∧ VVm θ Y c (paR p v c us bk ps fs x).vv ∧ ((kdR p v bk fs r (paR p v c us bk ps fs x)).s.2 = false → ∀ row q, row < vR v c us → q < (if row < r then fs + (bk v.kb).d else fs) → q < vNp v c w → Y (tb θ + 165) (64 * row + q) = nI ((kdR p v bk fs r (paR p v c us bk ps fs x)).kd row q) ∧ (kdR p v bk fs r (paR p v c us bk ps fs x)).kd row q < v.ki)) ⟨hone, X, rfl, x1, x2, fun _ row q a b e => (by rw [if_neg (by omega)] at b; exact x3' row q a b e)⟩ (fun f r b V1 hr hJ hgo => ?_) (fun f b V1 hJ => ?_)
                · obtain ⟨rfl, Y, rfl, y1, y2, y3⟩ := hJ
                  obtain ⟨hpY, hbY, hvY, Y53, Y41, Y65⟩ := fr Y y1
                  show bl_M_values_185 _ _ _ _ _ _ _ _ _ _ _ _ _ _ _
                  unfold bl_M_values_185
                  simp only [IM hθ, true_and]
                  rw [e126 Y _ 65 _ Y65 (by decide) (by decide)]
                  refine br_f (nI_ge hr (by omega)) ?_
                  cases hko : (kdR p v bk fs r (paR p v c us bk ps fs x)).s.2
                  · refine ⟨fun z => absurd z (by decide), fun _ => ⟨fun z => absurd (by rw [h0]; rfl) z, fun _ => ?_⟩⟩
                    have eJ : kdR p v bk fs (r + 1) (paR p v c us bk ps fs x) = match (pkR p (bk v.kb) (kdR p v bk fs r (paR p v c us bk ps fs x)).s).1 with
                      | none => ((pkR p (bk v.kb) (kdR p v bk fs r (paR p v c us bk ps fs x)).s).2, (kdR p v bk fs r (paR p v c us bk ps fs x)).kd, (kdR p v bk fs r (paR p v c us bk ps fs x)).vv)
                      | some e => ((pkR p (bk v.kb) (kdR p v bk fs r (paR p v c us bk ps fs x)).s).2, fun row => if row = r then kdW v.ki (bk v.kb).d fs e ((kdR p v bk fs r (paR p v c us bk ps fs x)).kd r) else (kdR p v bk fs r (paR p v c us bk ps fs x)).kd row, (kdR p v bk fs r (paR p v c us bk ps fs x)).vv) := rfl
                    refine m_kinds (v := v) (bd := bk v.kb) (r := r) (fs := fs) (n := vNp v c w) hθ hU hla Y53 hpY (kdR_ok hxo r) hbp (hbY _ z8).2 (by omega) hvY z6 z7 (by omega) (by omega) (by omega) (fun hpk => ?_) (fun e Z hpk s1 s2 s3 => ?_)
                    · rw [hpk] at eJ
                      have hout := pkR_none hbp hpk
                      intro y49 e49
                      rw [e49, nI_1]
                      refine hgo _ _ ⟨by rw [eJ]; show _ = bZ (!(pkR p (bk v.kb) (kdR p v bk fs r (paR p v c us bk ps fs x)).s).2.2); rw [hout]; rfl, Y, by rw [eJ]; rfl, y1, y2, fun z => ?_⟩
                      rw [eJ] at z
                      have z' : (pkR p (bk v.kb) (kdR p v bk fs r (paR p v c us bk ps fs x)).s).2.2 = false := z
                      rw [hout] at z'; cases z'
                    · rw [hpk] at eJ
                      have hin := (pkR_some hpk).2
                      intro y49 e49
                      rw [e49, nI_1]
                      refine hgo _ _ ⟨by rw [eJ]; show _ = bZ (!(pkR p (bk v.kb) (kdR p v bk fs r (paR p v c us bk ps fs x)).s).2.2); rw [hin]; rfl, Z, by rw [eJ]; rfl, fun a b1 b2 => by rw [s1 a b2]; exact y1 a b1 b2, fun ch k b1 b2 => by rw [s1 _ (by omega)]; exact y2 ch k b1 b2, fun _ row q b1 b2 b3 => ?_⟩
                      rw [eJ]
                      show Z _ _ = nI ((if row = r then kdW v.ki (bk v.kb).d fs e ((kdR p v bk fs r (paR p v c us bk ps fs x)).kd r) else (kdR p v bk fs r (paR p v c us bk ps fs x)).kd row) q) ∧ (if row = r then kdW v.ki (bk v.kb).d fs e ((kdR p v bk fs r (paR p v c us bk ps fs x)).kd r) else (kdR p v bk fs r (paR p v c us bk ps fs x)).kd row) q < v.ki
                      by_cases er : row = r
                      · rw [if_pos er]
                        subst er
                        rw [if_pos (by omega)] at b2
                        unfold kdW
                        by_cases hq : fs ≤ q ∧ q < fs + (bk v.kb).d
                        · simp only [hq, and_self, if_true]
                          exact ⟨s3 q hq.1 hq.2 b3, Nat.mod_lt _ z6⟩
                        · simp only [hq, if_false]
                          rw [s2 _ (by omega)]
                          exact y3 hko row q b1 (by rw [if_neg (by omega)]; omega) b3
                      · rw [if_neg er, s2 _ (by omega)]
                        refine y3 hko row q b1 ?_ b3
                        by_cases h3 : row < r
                        · rw [if_pos h3]; rw [if_pos (by omega)] at b2; exact b2
                        · rw [if_neg h3]; rw [if_neg (by omega)] at b2; exact b2
                  · have hst := kdR_stop (p := p) (v := v) (bk := bk) (fs := fs) (x := paR p v c us bk ps fs x) (r := r) hko (vR v c us - r)
                    rw [show r + (vR v c us - r) = vR v c us by omega] at hst
                    refine ⟨fun _ => ?_, fun z => absurd rfl z⟩
                    have := sub0 Y (kdR p v bk fs r (paR p v c us bk ps fs x)) (by rw [eK, hst]) y1 (by rw [kdR_vv]; exact y2) (fun z => by rw [hko] at z; cases z)
                    rw [hko] at this
                    exact this
                · obtain ⟨rfl, Y, rfl, y1, y2, y3⟩ := hJ
                  obtain ⟨hpY, hbY, hvY, Y53, Y41, Y65⟩ := fr Y y1
                  show bl_M_values_185 _ _ _ _ _ _ _ _ _ _ _ _ _ _ _
                  unfold bl_M_values_185
                  simp only [IM hθ, true_and]
                  rw [e126 Y _ 65 _ Y65 (by decide) (by decide)]
                  refine br_t (nI_le (Nat.le_refl _) (by omega)) (sub0 Y _ eK.symm y1 (by rw [kdR_vv]; exact y2) (fun z row q b1 b2 b3 => ?_))
                  rw [if_pos h0] at b2
                  exact y3 z row q b1 (by rw [if_pos b1]; exact b2) b3
              exact lp
            · have eK : paK p v c us bk ps fs (paR p v c us bk ps fs x) = paR p v c us bk ps fs x := paK_n (fun z => h0 z.1)
              rw [if_neg h0] at x3'
              obtain ⟨hpX, hbX, hvX, X53, X41, X65⟩ := fr X x1
              have hs0 := sub0 X (paR p v c us bk ps fs x) eK.symm x1 x2 (fun _ => by rw [if_neg h0]; exact x3')
              rw [ho] at hs0
              refine ⟨1, ?_⟩
              show bl_M_values_185 _ _ _ _ _ _ _ _ _ _ _ _ _ _ _
              unfold bl_M_values_185
              simp only [IM hθ, true_and]
              exact ⟨fun _ => hs0, fun _ => ⟨fun z => absurd z (by decide), fun _ => ⟨fun _ => hs0, fun z => absurd ((nI_eq (b := 0) (by omega) (by decide)).1 z) h0⟩⟩⟩
          · have hst := paR_stop (p := p) (v := v) (c := c) (us := us) (bk := bk) (ps := ps) (x := x) (n := fs) ho (vNp v c w - fs)
            rw [show fs + (vNp v c w - fs) = vNp v c w by omega] at hst
            refine ⟨fun _ y41 e41 => ?_, fun z => absurd rfl z⟩
            rw [e41, nI_1]
            rw [hst, ho] at hk
            exact hk X x1 x2 (fun _ z => by cases z)
    refine ⟨vNp v c w + 1, ?_⟩
    have := grp (vNp v c w) 0 W (by omega) (by omega) (Nat.zero_mod _) hW (by rw [Nat.zero_min]; exact hvvW) (by
      rw [Nat.zero_min]
      intro hx0 row q a b d
      by_cases h0 : ps = 0
      · rw [if_pos h0] at b; omega
      · rw [if_neg h0] at b; exact hkd (by omega) hx0 row q a b d)
    rw [Nat.zero_min] at this
    exact this
  -- the start
  have go3 : ∀ hi : Nat, hi = min v.en (vCs v c w) → wb_M_values_106 θ (tb θ + 126) (nI (min v.be (vCs v c w))) (nI hi) K (mS θ W0 s) U := by
    intro hi hhi
    subst hhi
    unfold wb_M_values_106
    simp only [UM hU, IM hθ, true_and, exists_eq_left]
    have hb2 := (hbk0 _ z8).2.2.1
    rw [e126 W0 _ 53 (nI la) w53 (by decide) (by decide), i33, i35, nI_clamp (show la + 33 < 2 ^ 31 by omega), nI_clamp (show la + 35 < 2 ^ 31 by omega), mS_ne (show tb θ + 157 ≠ tb θ + 126 by omega), v4, v6, nI_clamp (show v.kb < 2 ^ 31 by omega), mS_ne (show tb θ + 150 ≠ tb θ + 126 by omega), hb2, mS_40, pk_sub (by omega), pk_div (by omega) (by omega) (by omega)]
    refine ⟨by omega, vp_in_nI (by omega) (by decide), nI_ne0 z4 (by omega), fun y29 e29 => ⟨by omega, vp_in_nI (by omega) (by decide), vp_in_nI (by omega) (by decide), fun y35 e35 => ?_⟩⟩
    have e29' : y29 = nI (vNp v c w) := e29
    subst e29'
    subst e35
    have st : ∃ n, wl_M_values_161 θ (tb θ + 126) (nI (min v.be (vCs v c w))) (nI (vNp v c w)) (nI (bk v.kb).d) K n (bZ (!s.2)) (0 : Int32) (mS θ W0 s) U := by
      refine ⟨3, ?_⟩
      show bl_M_values_161 _ _ _ _ _ _ _ _ _ _ _
      unfold bl_M_values_161
      refine br_f (by decide) (pass 0 (s, (fun _ _ => 0), vv) W0 _ (by decide) hs (fun _ _ _ => rfl) hvv0 (fun z => by cases z) (fun X x1 x2 x3 => ?_))
      show bl_M_values_161 _ _ _ _ _ _ _ _ _ _ _
      unfold bl_M_values_161
      refine br_f (by decide) (pass 1 (paR p v c us bk 0 (vNp v c w) (s, (fun _ _ => 0), vv)) X _ (by decide) (paR_ok (x := (s, _, _)) hs _) x1 x2 (fun _ z => x3 rfl z) (fun Y y1 y2 _ => ?_))
      show bl_M_values_161 _ _ _ _ _ _ _ _ _ _ _
      unfold bl_M_values_161
      refine br_t (by decide) (h Y (fun q b1 b2 b3 b4 => by rw [y1 q b2 b4, w1 q b1 b3]) (fun j hj => by rw [y1 _ (by omega) (by omega)]; exact w2 j hj) y2)
    cases hso : s.2
    · rw [hso] at st
      exact ⟨fun z => absurd rfl z, fun _ => st⟩
    · rw [hso] at st
      exact ⟨fun _ => st, fun z => absurd z (by decide)⟩
  have go2 : wb_M_values_73 θ (tb θ + 126) (nI (vCs v c w)) (nI (min v.be (vCs v c w))) K (mS θ W0 s) U := by
    unfold wb_M_values_73
    simp only [UM hU, IM hθ, true_and, exists_eq_left]
    rw [e126 W0 _ 53 (nI la) w53 (by decide) (by decide), i32, nI_clamp (show la + 32 < 2 ^ 31 by omega), mS_ne (show tb θ + 157 ≠ tb θ + 126 by omega), v3]
    refine ⟨by omega, vp_in_nI (by omega) (by decide), pk_le (vCs v c w) v.en (fun q => go3 _ (by rw [Nat.min_eq_right q])) (fun q => go3 _ (by rw [Nat.min_eq_left (by omega)]))⟩
  have go1 : ∀ z : Int32, z = nI (vCs v c w) → wb_M_values_40 θ (tb θ + 126) z K (mS θ W0 s) U := by
    intro z hz
    subst hz
    unfold wb_M_values_40
    simp only [UM hU, IM hθ, true_and, exists_eq_left]
    rw [e126 W0 _ 53 (nI la) w53 (by decide) (by decide), i31, nI_clamp (show la + 31 < 2 ^ 31 by omega), mS_ne (show tb θ + 157 ≠ tb θ + 126 by omega), v2]
    refine ⟨by omega, vp_in_nI (by omega) (by decide), pk_le (vCs v c w) v.be (fun q => ?_) (fun q => ?_)⟩
    · have := go2; rw [Nat.min_eq_right q] at this; exact this
    · have := go2; rw [Nat.min_eq_left (by omega)] at this; exact this
  simp only [UM hU, IM hθ, true_and, exists_eq_left]
  rw [e126 W0 _ 53 (nI la) w53 (by decide) (by decide), i30, nI_clamp (show la + 30 < 2 ^ 31 by omega), mS_ne (show tb θ + 157 ≠ tb θ + 126 by omega), v1, e126 W0 _ 57 (nI sz) w57 (by decide) (by decide), e126 W0 _ 41 (nI c) w41 (by decide) (by decide), pk_mul, show (2 : Int32) = nI 2 from rfl]
  have hcs : c * sz ≤ 2 * 64 := Nat.mul_le_mul hc (by omega)
  refine ⟨by omega, vp_in_nI (by omega) (by decide), fun q => ⟨by decide, go1 _ ?_⟩, fun q => ⟨by decide, go1 _ ?_⟩⟩
  · rw [pk_div (by omega) (by decide) (by decide)]
    unfold vCs; rw [if_neg (fun z => q (by rw [z]))]
    congr 1; omega
  · rw [pk_div (by omega) (by decide) (by decide)]
    unfold vCs; rw [if_pos ((nI_eq (b := 2) (by omega) (by decide)).1 q), hsz, ← Nat.mul_assoc, Nat.mul_comm c 2, Nat.mul_assoc, Nat.mul_div_cancel_left _ (by decide)]
end MVALS2
