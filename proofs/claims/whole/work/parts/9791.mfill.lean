-- the values of a block, the reference: parts, kinds, rows
section MFILL
variable {θ : TH} {V : VT} {U : UT} {sw : Bool} {p : PK} {v : VD} {c B la : Nat} {us : Nat → Bool} {bk : Nat → BD} {bd : BD} {s : RS}
def VVm (θ : TH) (W : VT) (c : Nat) (vv : VT) : Prop := ∀ ch x, ch < c → x < 32 → W (tb θ + 160) (32 * ch + x) = vv ch x
theorem m_cell {K : Int32 → VT → UT → Prop} (hθ : OKt θ) (hU : US θ sw U) (hla : la ≤ 48) (h53 : V (tb θ + 126) 53 = nI la) (h41 : V (tb θ + 126) 41 = nI c) (h30 : V (tb θ + 157) (la + 30) = nI v.mo) (hmo : v.mo ≤ 2) (hc0 : 0 < c) (hc : c ≤ 2) {r q : Nat} (hr : r < 2) (hq : q < 128) (h164 : v.mo ≠ 2 → V (tb θ + 164) r = nI (vRc v us r)) (h : K (nI (32 * (vCell v c us r q).1 + (vCell v c us r q).2)) V U) : wp_M_cell θ (tb θ + 126) (nI r) (nI q) V U K := by
  have i30 : nI la + (30 : Int32) = nI (la + 30) := nI_add la 30
  unfold wp_M_cell
  simp only [UM hU, IM hθ, true_and, exists_eq_left, h53, i30]
  rw [nI_clamp (show la + 30 < 2 ^ 31 by omega), h30, h41]
  refine ⟨by omega, vp_in_nI (by omega) (by decide), fun z => ?_, fun z => ?_⟩
  · have hm : v.mo ≠ 2 := fun w => z (by rw [w]; rfl)
    unfold vCell at h
    rw [if_neg hm] at h
    rw [nI_clamp (show r < 2 ^ 31 by omega), h164 hm, show (32 : Int32) * nI (vRc v us r) = nI (32 * vRc v us r) from pk_mul 32 _, nI_add]
    exact ⟨by omega, vp_in_nI (by omega) (by decide), h⟩
  · have hm : v.mo = 2 := (nI_eq (b := 2) (by omega) (by decide)).1 z
    unfold vCell at h
    rw [if_pos hm] at h
    rw [pk_rem (by omega) hc0 (by omega), pk_div (by omega) hc0 (by omega), show (32 : Int32) * nI (q % c) = nI (32 * (q % c)) from pk_mul 32 _, nI_add]
    exact ⟨nI_ne0 hc0 (by omega), h⟩
theorem m_fill {K : Int32 → VT → UT → Prop} (hθ : OKt θ) (hU : US θ sw U) (hla : la ≤ 48) (h53 : V (tb θ + 126) 53 = nI la) (h41 : V (tb θ + 126) 41 = nI c) (hp : MP θ V p) (hs : s.1 ≤ 8 * p.L) (hs2 : s.2 = false) (hc : c ≤ 2) (hc0 : 0 < c) {m : Nat} (hm : m < 4) (hbp : BKP bd) (hbm : BKM θ V m bd) (hh : bd.hv = true) (hmod : v.ps % bd.d = 0) (hvm : VPM θ V la v) (hmo2 : v.mo ≤ 2) (hps1 : 1 ≤ v.ps) (hps : v.ps ≤ 8) (hbe : v.be ≤ 63) {r pp : Nat} {w : Nat} (hr : r < 2) (hx4 : v.mo ≠ 2 → V (tb θ + 164) r = nI (vRc v us r) ∧ vRc v us r < c) (hw : w ≤ 32) (hcell : v.be + pp * v.ps + v.ps ≤ (if v.mo = 2 then c * w else w)) (hpp : pp < 64) {vv : VT} (hvv : VVm θ V c vv) (h : ∀ W, (∀ q, q ≠ tb θ + 160 → W q = V q) → VVm θ W c (faJ p v c us bd r (v.be + pp * v.ps) (v.ps / bd.d) (s, vv)).2 → K (bZ (!(faJ p v c us bd r (v.be + pp * v.ps) (v.ps / bd.d) (s, vv)).1.2)) (mS θ W (faJ p v c us bd r (v.be + pp * v.ps) (v.ps / bd.d) (s, vv)).1) U) : wp_M_fill θ (tb θ + 126) (nI r) (nI (v.be + pp * v.ps)) (nI m) (mS θ V s) U K := by
  obtain ⟨v1, v2, v3, v4, v5, v6, v7, v8⟩ := hvm
  obtain ⟨b1, b2, b3, b4, b5⟩ := hbm
  obtain ⟨a1, a2, a3, a4, a5⟩ := id hbp
  have i30 : nI la + (30 : Int32) = nI (la + 30) := nI_add la 30
  have i33 : nI la + (33 : Int32) = nI (la + 33) := nI_add la 33
  have e126 : ∀ X t j x, X (tb θ + 126) j = x → j ≠ 39 → j ≠ 40 → mS θ X t (tb θ + 126) j = x := fun X t j x hX a b => by rw [mS_j a b]; exact hX
  have hn : v.ps / bd.d ≤ v.ps := Nat.div_le_self _ _
  have hppm : pp * v.ps ≤ 63 * 8 := Nat.mul_le_mul (by omega) hps
  have hcw : c * w ≤ 2 * 32 := Nat.mul_le_mul hc hw
  unfold wp_M_fill
  simp only [UM hU, IM hθ, true_and, exists_eq_left]
  rw [e126 V _ 53 (nI la) h53 (by decide) (by decide), i33, nI_clamp (show la + 33 < 2 ^ 31 by omega), mS_ne (show tb θ + 157 ≠ tb θ + 126 by omega), v4, nI_clamp (show m < 2 ^ 31 by omega), mS_ne (show tb θ + 150 ≠ tb θ + 126 by omega), b2]
  refine ⟨by omega, vp_in_nI (by omega) (by decide), by omega, vp_in_nI (by omega) (by decide), nI_ne0 a3 (by omega), fun y5 e5 => ?_⟩
  rw [pk_div (by omega) (by omega) (by omega)] at e5
  subst e5
  refine loop1 (v.ps / bd.d) (fun j V1 => (faJ p v c us bd r (v.be + pp * v.ps) j (s, vv)).1.2 = false ∧ ∃ W, V1 = mS θ W (faJ p v c us bd r (v.be + pp * v.ps) j (s, vv)).1 ∧ (∀ q, q ≠ tb θ + 160 → W q = V q) ∧ VVm θ W c (faJ p v c us bd r (v.be + pp * v.ps) j (s, vv)).2) ⟨hs2, V, rfl, fun _ _ => rfl, hvv⟩ (fun f j V1 hj hJ hgo => ?_) (fun f V1 hJ => ?_)
  · obtain ⟨hno, W, rfl, w1, w2⟩ := hJ
    have hpW : MP θ W p := hp.eq (by rw [w1 _ (by omega)]) (w1 _ (by omega))
    show bl_M_fill_24 _ _ _ _ _ _ _ _ _ _ _
    unfold bl_M_fill_24
    simp only [IM hθ, true_and]
    have hbW : BKM θ W m bd := BKM.eq (V := V) ⟨b1, b2, b3, b4, b5⟩ (fun a _ _ => w1 _ (by omega))
    refine br_f (nI_ge hj (by omega)) (m_pick hθ hU hpW hm hbp hbW (faJ_ok (x := (s, vv)) hs j) ?_)
    have eJ : faJ p v c us bd r (v.be + pp * v.ps) (j + 1) (s, vv) = match (pkR p bd (faJ p v c us bd r (v.be + pp * v.ps) j (s, vv)).1).1 with
      | none => ((pkR p bd (faJ p v c us bd r (v.be + pp * v.ps) j (s, vv)).1).2, (faJ p v c us bd r (v.be + pp * v.ps) j (s, vv)).2)
      | some e => ((pkR p bd (faJ p v c us bd r (v.be + pp * v.ps) j (s, vv)).1).2, faC v c us bd r (v.be + pp * v.ps) j e bd.d (faJ p v c us bd r (v.be + pp * v.ps) j (s, vv)).2) := rfl
    cases hpk : (pkR p bd (faJ p v c us bd r (v.be + pp * v.ps) j (s, vv)).1).1 with
    | none =>
      rw [hpk] at eJ
      have ho := pkR_none hbp hpk
      have hst := faJ_stop (p := p) (v := v) (c := c) (us := us) (bd := bd) (r := r) (fr := v.be + pp * v.ps) (x := (s, vv)) (j := j + 1) (by rw [eJ]; exact ho) (v.ps / bd.d - (j + 1))
      rw [show j + 1 + (v.ps / bd.d - (j + 1)) = v.ps / bd.d by omega, eJ] at hst
      rw [hst] at h
      have := h W w1 w2
      rw [show ((pkR p bd (faJ p v c us bd r (v.be + pp * v.ps) j (s, vv)).1).2, (faJ p v c us bd r (v.be + pp * v.ps) j (s, vv)).2).1.2 = true from ho] at this
      exact ⟨fun z => absurd z (by decide), fun _ => this⟩
    | some e =>
      rw [hpk] at eJ
      have he := (pkR_some hpk).1
      have hno2 := (pkR_some hpk).2
      refine ⟨fun _ => ?_, fun z => absurd (nI_pos' (by omega)) z⟩
      refine loop1 bd.d (fun i V1 => ∃ X, V1 = mS θ X (pkR p bd (faJ p v c us bd r (v.be + pp * v.ps) j (s, vv)).1).2 ∧ (∀ q, q ≠ tb θ + 160 → X q = V q) ∧ VVm θ X c (faC v c us bd r (v.be + pp * v.ps) j e i (faJ p v c us bd r (v.be + pp * v.ps) j (s, vv)).2)) ⟨W, rfl, w1, w2⟩ (fun g i V1 hi hJ hgo2 => ?_) (fun g V1 hJ => ?_)
      · obtain ⟨X, rfl, x1, x2⟩ := hJ
        have hof := vOf_lt (v := v) (bd := bd) a3 hmod hj hi
        have hji : j * bd.d ≤ 8 * 4 := Nat.mul_le_mul (by omega) a4
        have hin' : i * (v.ps / bd.d) ≤ 4 * 8 := Nat.mul_le_mul (by omega) (by omega)
        have X53 : X (tb θ + 126) 53 = nI la := by rw [x1 _ (by omega)]; exact h53
        have X41 : X (tb θ + 126) 41 = nI c := by rw [x1 _ (by omega)]; exact h41
        show bl_M_fill_48 _ _ _ _ _ _ _ _ _ _ _ _ _ _
        unfold bl_M_fill_48
        simp only [UM hU, IM hθ, true_and, exists_eq_left]
        rw [nI_clamp (show m < 2 ^ 31 by omega), mS_ne (show tb θ + 150 ≠ tb θ + 126 by omega), x1 (tb θ + 150) (by omega), b2, e126 X _ 53 (nI la) X53 (by decide) (by decide), i30, nI_clamp (show la + 30 < 2 ^ 31 by omega), mS_ne (show tb θ + 157 ≠ tb θ + 126 by omega), x1 (tb θ + 157) (by omega), v1, pk_mul, pk_mul, nI_add, nI_add, nI_add, nI_add]
        refine ⟨by omega, vp_in_nI (by omega) (by decide), br_f (nI_ge hi (by omega)) ⟨by omega, vp_in_nI (by omega) (by decide), ?_⟩⟩
        have hcl : ∀ ch x, vCell v c us r (v.be + pp * v.ps + vOf v bd j i) = (ch, x) → ch < c ∧ x < 32 := by
          intro ch x hcx
          unfold vCell at hcx
          by_cases hm2 : v.mo = 2
          · rw [if_pos hm2] at hcx hcell
            have e1 : (v.be + pp * v.ps + vOf v bd j i) % c = ch := congrArg Prod.fst hcx
            have e2 : (v.be + pp * v.ps + vOf v bd j i) / c = x := congrArg Prod.snd hcx
            have hcm : (v.be + pp * v.ps + vOf v bd j i) % c < c := Nat.mod_lt _ hc0
            have hdl : (v.be + pp * v.ps + vOf v bd j i) / c < w := by
              rw [Nat.div_lt_iff_lt_mul hc0, Nat.mul_comm w c]; omega
            omega
          · rw [if_neg hm2] at hcx hcell
            have e1 : vRc v us r = ch := congrArg Prod.fst hcx
            have e2 : v.be + pp * v.ps + vOf v bd j i = x := congrArg Prod.snd hcx
            have := (hx4 hm2).2
            omega
        have hce : v.be + pp * v.ps + vOf v bd j i < 128 := by
          by_cases hm2 : v.mo = 2
          · rw [if_pos hm2] at hcell; omega
          · rw [if_neg hm2] at hcell; omega
        have fin : ∀ o : Nat, o = v.be + pp * v.ps + vOf v bd j i → wb_M_fill_101 θ (tb θ + 126) (nI r) (nI (v.be + pp * v.ps)) (nI m) (nI (v.ps / bd.d)) (nI j) (nI e) (nI i) (nI o) (wl_M_fill_24 θ (tb θ + 126) (nI r) (nI (v.be + pp * v.ps)) (nI m) (nI (v.ps / bd.d)) K f) (wl_M_fill_48 θ (tb θ + 126) (nI r) (nI (v.be + pp * v.ps)) (nI m) (nI (v.ps / bd.d)) (nI j) (nI e) (wl_M_fill_24 θ (tb θ + 126) (nI r) (nI (v.be + pp * v.ps)) (nI m) (nI (v.ps / bd.d)) K f) K g) K (mS θ X (pkR p bd (faJ p v c us bd r (v.be + pp * v.ps) j (s, vv)).1).2) U := by
          intro o ho
          subst ho
          unfold wb_M_fill_101
          simp only [IM hθ, true_and]
          refine m_cell (v := v) (c := c) (us := us) hθ hU hla (e126 X _ 53 (nI la) X53 (by decide) (by decide)) (e126 X _ 41 (nI c) X41 (by decide) (by decide)) (by rw [mS_ne (by omega), x1 _ (by omega)]; exact v1) hmo2 hc0 hc hr hce (fun hm2 => by rw [mS_ne (by omega), x1 _ (by omega)]; exact (hx4 hm2).1) ?_
          simp only [UM hU, IM hθ, true_and, exists_eq_left]
          obtain ⟨ch, x, hcx⟩ : ∃ ch x, vCell v c us r (v.be + pp * v.ps + vOf v bd j i) = (ch, x) := ⟨_, _, rfl⟩
          obtain ⟨hch, hxl⟩ := hcl ch x hcx
          rw [hcx]
          show tb θ + 160 ≠ 0 ∧ vp_in (nI (32 * ch + x)) 64 ∧ _
          have hix : ((32 : Int32) * nI m + (4 : Int32) * nI e) + nI i = nI (32 * m + 4 * e + i) := by
            rw [show (32 : Int32) = nI 32 from rfl, show (4 : Int32) = nI 4 from rfl, pk_mul, pk_mul, nI_add, nI_add]
          rw [hix, nI_clamp (show 32 * ch + x < 2 ^ 31 by omega), nI_clamp (show 32 * m + 4 * e + i < 2 ^ 31 by omega), mS_ne (show tb θ + 160 ≠ tb θ + 126 by omega), mS_ne (show tb θ + 155 ≠ tb θ + 126 by omega), x1 (tb θ + 155) (by omega), b5 hh e i he hi]
          refine ⟨by omega, vp_in_nI (by omega) (by decide), by omega, vp_in_nI (by omega) (by decide), fun V42 h42 y43 e43 => ?_⟩
          rw [mS_up (by omega)] at h42
          rw [h42, e43, nI_1]
          refine hgo2 _ ⟨_, rfl, fun q hq => (up2_ne hq).trans (x1 q hq), fun ch2 y hch2 hy => ?_⟩
          unfold faC
          rw [hcx]
          by_cases e1 : ch2 = ch
          · subst e1
            by_cases e2 : y = x
            · subst e2; rw [up2_aa, up2_aa, x2 ch2 y hch2 hy]
            · rw [up2_ab (by omega), up2_ab e2]; exact x2 ch2 y hch2 hy
          · rw [up2_ab (by omega), up2_ne e1]; exact x2 ch2 y hch2 hy
        refine ⟨fun q => fin _ ?_, fun q => fin _ ?_⟩
        · unfold vOf; rw [if_neg (fun z => q (by rw [z]; rfl))]; omega
        · unfold vOf; rw [if_pos ((nI_eq (b := 0) (by omega) (by decide)).1 q)]; omega
      · obtain ⟨X, rfl, x1, x2⟩ := hJ
        show bl_M_fill_48 _ _ _ _ _ _ _ _ _ _ _ _ _ _
        unfold bl_M_fill_48
        simp only [UM hU, IM hθ, true_and, exists_eq_left]
        rw [nI_clamp (show m < 2 ^ 31 by omega), mS_ne (show tb θ + 150 ≠ tb θ + 126 by omega), x1 (tb θ + 150) (by omega), b2]
        refine ⟨by omega, vp_in_nI (by omega) (by decide), br_t (nI_le (Nat.le_refl _) (by omega)) (fun y hy => ?_)⟩
        rw [hy, nI_1]
        exact hgo _ ⟨by rw [eJ]; exact hno2, X, by rw [eJ], x1, by rw [eJ]; exact x2⟩
  · obtain ⟨hno, W, rfl, w1, w2⟩ := hJ
    show bl_M_fill_24 _ _ _ _ _ _ _ _ _ _ _
    unfold bl_M_fill_24
    have := h W w1 w2
    rw [hno] at this
    exact br_t (nI_le (Nat.le_refl _) (by omega)) this
/-- the kinds of one row -/
theorem m_kinds {K : Int32 → VT → UT → Prop} (hθ : OKt θ) (hU : US θ sw U) (hla : la ≤ 48) (h53 : V (tb θ + 126) 53 = nI la) (hp : MP θ V p) (hs : s.1 ≤ 8 * p.L) (hbp : BKP bd) (hbm : BKM θ V v.kb bd) (hkb : v.kb < 4) (hvm : VPM θ V la v) (hki : 1 ≤ v.ki) (hki2 : v.ki ≤ 2) {r fs n : Nat} (hr : r < 2) (hfs : fs < 64) (hn : n ≤ 64) (h0 : (pkR p bd s).1 = none → K 0 (mS θ V (pkR p bd s).2) U) (h1 : ∀ e W, (pkR p bd s).1 = some e → (∀ q, q ≠ tb θ + 165 → W q = V q) → (∀ j, (j < 64 * r + fs ∨ 64 * r + 64 ≤ j) → W (tb θ + 165) j = V (tb θ + 165) j) → (∀ q, fs ≤ q → q < fs + bd.d → q < n → W (tb θ + 165) (64 * r + q) = nI (e / v.ki ^ (fs + bd.d - 1 - q) % v.ki)) → K 1 (mS θ W (pkR p bd s).2) U) : wp_M_kinds θ (tb θ + 126) (nI r) (nI fs) (nI bd.d) (nI n) (mS θ V s) U K := by
  obtain ⟨v1, v2, v3, v4, v5, v6, v7, v8⟩ := hvm
  obtain ⟨a1, a2, a3, a4, a5⟩ := id hbp
  have i34 : nI la + (34 : Int32) = nI (la + 34) := nI_add la 34
  have i35 : nI la + (35 : Int32) = nI (la + 35) := nI_add la 35
  have e126 : ∀ X t j x, X (tb θ + 126) j = x → j ≠ 39 → j ≠ 40 → mS θ X t (tb θ + 126) j = x := fun X t j x hX a b => by rw [mS_j a b]; exact hX
  unfold wp_M_kinds
  simp only [UM hU, IM hθ, true_and, exists_eq_left]
  rw [e126 V _ 53 (nI la) h53 (by decide) (by decide), i35, nI_clamp (show la + 35 < 2 ^ 31 by omega), mS_ne (show tb θ + 157 ≠ tb θ + 126 by omega), v6]
  refine ⟨by omega, vp_in_nI (by omega) (by decide), m_pick hθ hU hp hkb hbp hbm hs ?_⟩
  cases hpk : (pkR p bd s).1 with
  | none => exact ⟨fun z => absurd z (by decide), fun _ => h0 hpk⟩
  | some e =>
    have he := (pkR_some hpk).1
    refine ⟨fun _ y10 e10 => ?_, fun z => absurd (nI_pos' (by omega)) z⟩
    rw [nI_add, show (1 : Int32) = nI 1 from rfl, pk_sub (by omega)] at e10
    subst e10
    have inner : ∀ d t X, t + d = bd.d → (∀ q, q ≠ tb θ + 165 → X q = V q) → (∀ j, (j < 64 * r + fs ∨ 64 * r + 64 ≤ j) → X (tb θ + 165) j = V (tb θ + 165) j) → (∀ q, fs + d ≤ q → q < fs + bd.d → q < n → X (tb θ + 165) (64 * r + q) = nI (e / v.ki ^ (fs + bd.d - 1 - q) % v.ki)) → ∀ z6 : Int32, z6 = nI (fs + d) + (-1) → wl_M_kinds_32 θ (tb θ + 126) (nI r) (nI fs) (nI n) K (d + 1) (nI (e / v.ki ^ t)) z6 (mS θ X (pkR p bd s).2) U := by
      intro d
      induction d with
      | zero =>
        intro t X ht x1 x2 x3 z6 hz6
        show bl_M_kinds_32 _ _ _ _ _ _ _ _ _ _ _
        unfold bl_M_kinds_32
        have hlt : z6 < nI fs := by
          rw [hz6]
          cases fs with
          | zero => decide
          | succ k => rw [show k + 1 + 0 = k + 1 from rfl, pk_m1]; exact nI_lt (by omega) (by omega)
        exact br_t hlt (h1 e X hpk x1 x2 (fun q a b c => x3 q (by omega) b c))
      | succ d ihd =>
        intro t X ht x1 x2 x3 z6 hz6
        rw [show fs + (d + 1) = (fs + d) + 1 by omega, pk_m1] at hz6
        subst hz6
        have hpw := pw_le (r := v.ki) (i := t) (by omega) (by omega)
        have hp0 : 0 < v.ki ^ t := Nat.pow_pos hki
        have hel : e / v.ki ^ t ≤ e := Nat.div_le_self _ _
        have ed : nI (e / v.ki ^ t) / nI v.ki = nI (e / v.ki ^ (t + 1)) := by
          rw [pk_div (by omega) hki (by omega), Nat.div_div_eq_div_mul, Nat.pow_succ]
        have X53 : ∀ Y : VT, (∀ q, q ≠ tb θ + 165 → Y q = V q) → Y (tb θ + 126) 53 = nI la := fun Y hY => by rw [hY _ (by omega)]; exact h53
        show bl_M_kinds_32 _ _ _ _ _ _ _ _ _ _ _
        unfold bl_M_kinds_32
        simp only [UM hU, IM hθ, true_and, exists_eq_left]
        have nxt : ∀ Y, (∀ q, q ≠ tb θ + 165 → Y q = V q) → (∀ j, (j < 64 * r + fs ∨ 64 * r + 64 ≤ j) → Y (tb θ + 165) j = V (tb θ + 165) j) → (∀ q, fs + d ≤ q → q < fs + bd.d → q < n → Y (tb θ + 165) (64 * r + q) = nI (e / v.ki ^ (fs + bd.d - 1 - q) % v.ki)) → wb_M_kinds_72 θ (tb θ + 126) (nI r) (nI fs) (nI n) (nI (e / v.ki ^ t)) (nI (fs + d)) (wl_M_kinds_32 θ (tb θ + 126) (nI r) (nI fs) (nI n) K (d + 1)) K (mS θ Y (pkR p bd s).2) U := by
          intro Y y1 y2 y3
          unfold wb_M_kinds_72
          simp only [UM hU, IM hθ, true_and, exists_eq_left]
          rw [e126 Y _ 53 (nI la) (X53 Y y1) (by decide) (by decide), i34, nI_clamp (show la + 34 < 2 ^ 31 by omega), mS_ne (show tb θ + 157 ≠ tb θ + 126 by omega), y1 (tb θ + 157) (by omega), v5, ed]
          refine ⟨by omega, vp_in_nI (by omega) (by decide), nI_ne0 hki (by omega), fun y25 e25 y26 e26 => ?_⟩
          rw [e25, e26]
          exact ihd (t + 1) Y (by omega) y1 y2 y3 _ rfl
        refine br_f (nI_nlt (by omega) (by omega)) (pk_le n (fs + d) (fun qn => nxt X x1 x2 (fun q a b c => by omega)) (fun qn => ?_))
        rw [e126 X _ 53 (nI la) (X53 X x1) (by decide) (by decide), i34, nI_clamp (show la + 34 < 2 ^ 31 by omega), mS_ne (show tb θ + 157 ≠ tb θ + 126 by omega), x1 (tb θ + 157) (by omega), v5, show (64 : Int32) * nI r = nI (64 * r) from pk_mul 64 r, nI_add, nI_clamp (show 64 * r + (fs + d) < 2 ^ 31 by omega), pk_rem (by omega) hki (by omega)]
        refine ⟨by omega, by omega, vp_in_nI (by omega) (by decide), nI_ne0 hki (by omega), vp_in_nI (by omega) (by decide), fun V23 h23 => ?_⟩
        rw [mS_up (by omega)] at h23
        rw [h23]
        refine nxt _ (fun q a => (up2_ne a).trans (x1 q a)) (fun j hj => ?_) (fun q a b c => ?_)
        · rw [up2_ab (by omega)]; exact x2 j hj
        · by_cases eq : q = fs + d
          · subst eq
            rw [up2_aa, show fs + bd.d - 1 - (fs + d) = t by omega]
          · rw [up2_ab (by omega)]; exact x3 q (by omega) b c
    have hin0 := inner bd.d 0 V (by omega) (fun _ _ => rfl) (fun _ _ => rfl) (fun q a b _ => by omega) (nI (fs + bd.d - 1)) (by
      have := pk_m1 (fs + bd.d - 1)
      rw [show fs + bd.d - 1 + 1 = fs + bd.d by omega] at this
      exact this.symm)
    rw [Nat.pow_zero, Nat.div_one] at hin0
    exact ⟨_, hin0⟩
end MFILL
