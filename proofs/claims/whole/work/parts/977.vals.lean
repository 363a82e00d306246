-- the values of a block
def vAny (us : Nat → Bool) : Bool := us 0 || us 1
def vOn (v : VD) (us : Nat → Bool) (ch : Nat) : Bool := if v.jo = true then vAny us else us ch
def vR (v : VD) (c : Nat) (us : Nat → Bool) : Nat := if v.mo = 2 then (if vAny us = true then 1 else 0) else (if vOn v us 0 = true then 1 else 0) + (if c = 2 ∧ vOn v us 1 = true then 1 else 0)
def vRc (v : VD) (us : Nat → Bool) (r : Nat) : Nat := if r = 0 ∧ vOn v us 0 = true then 0 else 1
def vCell (v : VD) (c : Nat) (us : Nat → Bool) (r q : Nat) : Nat × Nat := if v.mo = 2 then (q % c, q / c) else (vRc v us r, q)
def vOf (v : VD) (bd : BD) (j i : Nat) : Nat := if v.mo = 0 then j + i * (v.ps / bd.d) else j * bd.d + i
def faC (v : VD) (c : Nat) (us : Nat → Bool) (bd : BD) (r fr j e : Nat) : Nat → VT → VT
  | 0, vv => vv
  | i + 1, vv => up2 (faC v c us bd r fr j e i vv) (vCell v c us r (fr + vOf v bd j i)).1 (vCell v c us r (fr + vOf v bd j i)).2 (faC v c us bd r fr j e i vv (vCell v c us r (fr + vOf v bd j i)).1 (vCell v c us r (fr + vOf v bd j i)).2 + bd.cm e i)
def faJ (p : PK) (v : VD) (c : Nat) (us : Nat → Bool) (bd : BD) (r fr : Nat) : Nat → RS × VT → RS × VT
  | 0, x => x
  | j + 1, x => match (pkR p bd (faJ p v c us bd r fr j x).1).1 with
    | none => ((pkR p bd (faJ p v c us bd r fr j x).1).2, (faJ p v c us bd r fr j x).2)
    | some e => ((pkR p bd (faJ p v c us bd r fr j x).1).2, faC v c us bd r fr j e bd.d (faJ p v c us bd r fr j x).2)
section VALS
variable {θ : TH} {V : VT} {U : UT} {sw : Bool} {p : PK} {v : VD} {c B vp : Nat} {us : Nat → Bool} {bk : Nat → BD} {bd : BD}
theorem faJ_stop {r fr : Nat} {x : RS × VT} {j : Nat} (h : (faJ p v c us bd r fr j x).1.2 = true) : ∀ d, faJ p v c us bd r fr (j + d) x = faJ p v c us bd r fr j x
  | 0 => rfl
  | d + 1 => by
    have ih := faJ_stop h d
    have e : faJ p v c us bd r fr (j + (d + 1)) x = match (pkR p bd (faJ p v c us bd r fr (j + d) x).1).1 with
      | none => ((pkR p bd (faJ p v c us bd r fr (j + d) x).1).2, (faJ p v c us bd r fr (j + d) x).2)
      | some e => ((pkR p bd (faJ p v c us bd r fr (j + d) x).1).2, faC v c us bd r fr (j + d) e bd.d (faJ p v c us bd r fr (j + d) x).2) := rfl
    rw [e, ih, pkR_out h]
theorem faJ_ok {r fr : Nat} {x : RS × VT} (h : x.1.1 ≤ 8 * p.L) : ∀ j, (faJ p v c us bd r fr j x).1.1 ≤ 8 * p.L
  | 0 => h
  | j + 1 => by
    have := faJ_ok (r := r) (fr := fr) h j
    unfold faJ
    split
    · exact pkR_ok this
    · exact pkR_ok this
theorem faJ_out {r fr : Nat} {x : RS × VT} (h : x.1.2 = true) (j : Nat) : faJ p v c us bd r fr j x = x := by
  have := faJ_stop (p := p) (v := v) (c := c) (us := us) (bd := bd) (r := r) (fr := fr) (x := x) (j := 0) h j
  rw [Nat.zero_add] at this
  exact this
/-- the values as one side shows them -/
def VVc (θ : TH) (W : VT) (c : Nat) (vv : VT) : Prop := ∀ ch x, ch < c → x < 32 → W (tb θ + (104 + ch)) x = vv ch x
theorem vOf_lt {j i : Nat} (hd : 1 ≤ bd.d) (hm : v.ps % bd.d = 0) (hj : j < v.ps / bd.d) (hi : i < bd.d) : vOf v bd j i < v.ps := by
  have e : v.ps / bd.d * bd.d = v.ps := Nat.div_mul_cancel (Nat.dvd_of_mod_eq_zero hm)
  unfold vOf
  split
  · have h1 : (i + 1) * (v.ps / bd.d) ≤ bd.d * (v.ps / bd.d) := Nat.mul_le_mul_right _ hi
    rw [Nat.add_mul, Nat.one_mul, Nat.mul_comm bd.d, e] at h1
    omega
  · have h1 : (j + 1) * bd.d ≤ v.ps / bd.d * bd.d := Nat.mul_le_mul_right _ hj
    rw [Nat.add_mul, Nat.one_mul, e] at h1
    omega
theorem s_fill {K : VT → UT → Prop} (hθ : OKt θ) (hU : US θ sw U) (hv : vp = 78 ∨ vp = 94) (hp : HP θ V p) {s : RS} (hs : s.1 ≤ 8 * p.L) (hc : c ≤ 2) (hc0 : 0 < c) {m : Nat} (hm : m < 4) (hbp : BKP bd) (hbc : BKC θ V m bd) (hh : bd.hv = true) (hmod : v.ps % bd.d = 0) (hvc : VPC θ V vp c v) (hmo2 : v.mo ≤ 2) (hps : v.ps ≤ 8) (hbe : v.be ≤ 63) {r pp : Nat} {x4 : Int32} {w : Nat} (hx4 : v.mo ≠ 2 → x4 = nI (vRc v us r) ∧ vRc v us r < c) (hw : w ≤ 32) (hcell : v.be + pp * v.ps + v.ps ≤ (if v.mo = 2 then c * w else w)) (hpp : pp < 64) {vv : VT} (hvv : VVc θ V c vv) (h : ∀ W, (∀ q, q ≠ tb θ + 104 → q ≠ tb θ + 105 → W q = V q) → VVc θ W c (faJ p v c us bd r (v.be + pp * v.ps) (v.ps / bd.d) (s, vv)).2 → K (cS θ W (faJ p v c us bd r (v.be + pp * v.ps) (v.ps / bd.d) (s, vv)).1) U) : wp_P_addPart θ (tb θ + vp) (tb θ + 25) (tb θ + (106 + 5 * m)) (nI pp) x4 (tb θ + 103) (cS θ V s) U K := by
  obtain ⟨v0, v1, v2, v3, v4, v5, v6, v7, v8⟩ := hvc
  obtain ⟨b1, b2, b3, b4, b5, b6⟩ := hbc
  obtain ⟨a1, a2, a3, a4, a5⟩ := id hbp
  have hR103 : ∀ k, isR θ (tb θ + 103) 6 k ↔ k = 2 := kR hθ (by decide) rfl
  have hA104 : ∀ k, isA θ (tb θ + 104) 0 k ↔ k = 32 := kA hθ (by decide) rfl
  have hA105 : ∀ k, isA θ (tb θ + 105) 0 k ↔ k = 32 := kA hθ (by decide) rfl
  have hU0 : U (tb θ + 103) 0 = tb θ + 104 := uq hU (by cases sw <;> decide +kernel)
  have hU1 : U (tb θ + 103) 1 = tb θ + 105 := uq hU (by cases sw <;> decide +kernel)
  have hUc : ∀ ch, ch < 2 → U (tb θ + 103) ch = tb θ + (104 + ch) ∧ ∀ k, isA θ (tb θ + (104 + ch)) 0 k ↔ k = 32 := by
    intro ch hch
    have : ch = 0 ∨ ch = 1 := by omega
    rcases this with rfl | rfl
    · exact ⟨hU0, hA104⟩
    · exact ⟨hU1, hA105⟩
  have hn : v.ps / bd.d ≤ v.ps := Nat.div_le_self _ _
  have hppm : pp * v.ps ≤ 63 * 8 := Nat.mul_le_mul (by omega) hps
  have hcw : c * w ≤ 2 * 32 := Nat.mul_le_mul hc hw
  have hV0 : ∀ X, (∀ q, q ≠ tb θ + 104 → q ≠ tb θ + 105 → X q = V q) → ∀ s', (∀ j, cS θ X s' (tb θ + vp) j = V (tb θ + vp) j) ∧ (∀ j, cS θ X s' (tb θ + (106 + 5 * m)) j = V (tb θ + (106 + 5 * m)) j) := fun X hX s' => ⟨fun j => by rw [cS_ne (by omega), hX _ (by omega) (by omega)], fun j => by rw [cS_ne (by omega), hX _ (by omega) (by omega)]⟩
  unfold wp_P_addPart
  simp only [bkU hθ hU hm, vpU hθ hU hv, true_and]
  rw [(hV0 V (fun _ _ _ => rfl) s).1, (hV0 V (fun _ _ _ => rfl) s).1, (hV0 V (fun _ _ _ => rfl) s).2, v2, v4, b2, pk_mul, nI_add]
  intro y2 e2
  subst e2
  refine ⟨nI_ne0 a3 (by omega), fun y5 e5 => ?_⟩
  rw [pk_div (by omega) (by omega) (by omega)] at e5
  subst e5
  refine loop1 (v.ps / bd.d) (fun j V1 => ∃ W, V1 = cS θ W (faJ p v c us bd r (v.be + pp * v.ps) j (s, vv)).1 ∧ (∀ q, q ≠ tb θ + 104 → q ≠ tb θ + 105 → W q = V q) ∧ VVc θ W c (faJ p v c us bd r (v.be + pp * v.ps) j (s, vv)).2) ⟨V, rfl, fun _ _ _ => rfl, hvv⟩ (fun f j V1 hj hJ hgo => ?_) (fun f V1 hJ => ?_)
  · obtain ⟨W, rfl, w1, w2⟩ := hJ
    have hpW : HP θ W p := hp.eq (by rw [w1 _ (by omega) (by omega)]) (w1 _ (by omega) (by omega))
    show bl_P_addPart_27 _ _ _ _ _ _ _ _ _ _ _ _ _
    unfold bl_P_addPart_27
    simp only [bkU hθ hU hm, true_and]
    have hbW : BKC θ W m bd := BKC.eq (V := V) ⟨b1, b2, b3, b4, b5, b6⟩ (w1 _ (by omega) (by omega)) (w1 _ (by omega) (by omega)) (w1 _ (by omega) (by omega))
    refine br_f (nI_ge hj (by omega)) (s_pick hθ hU hpW hm hbp hbW (faJ_ok (x := (s, vv)) hs j) ?_)
    have eJ : faJ p v c us bd r (v.be + pp * v.ps) (j + 1) (s, vv) = match (pkR p bd (faJ p v c us bd r (v.be + pp * v.ps) j (s, vv)).1).1 with
      | none => ((pkR p bd (faJ p v c us bd r (v.be + pp * v.ps) j (s, vv)).1).2, (faJ p v c us bd r (v.be + pp * v.ps) j (s, vv)).2)
      | some e => ((pkR p bd (faJ p v c us bd r (v.be + pp * v.ps) j (s, vv)).1).2, faC v c us bd r (v.be + pp * v.ps) j e bd.d (faJ p v c us bd r (v.be + pp * v.ps) j (s, vv)).2) := rfl
    cases hpk : (pkR p bd (faJ p v c us bd r (v.be + pp * v.ps) j (s, vv)).1).1 with
    | none =>
      rw [hpk] at eJ
      have ho := pkR_none hbp hpk
      have hst := faJ_stop (p := p) (v := v) (c := c) (us := us) (bd := bd) (r := r) (fr := v.be + pp * v.ps) (x := (s, vv)) (j := j + 1) (by rw [eJ]; exact ho) (v.ps / bd.d - (j + 1))
      rw [show j + 1 + (v.ps / bd.d - (j + 1)) = v.ps / bd.d by omega, eJ] at hst
      rw [hst] at h
      exact ⟨fun z => absurd rfl z, fun _ => h W w1 w2⟩
    | some e =>
      rw [hpk] at eJ
      have he := (pkR_some hpk).1
      refine ⟨fun _ => ?_, fun z => absurd z (nI_nm1 (by omega))⟩
      refine loop1 bd.d (fun i V1 => ∃ X, V1 = cS θ X (pkR p bd (faJ p v c us bd r (v.be + pp * v.ps) j (s, vv)).1).2 ∧ (∀ q, q ≠ tb θ + 104 → q ≠ tb θ + 105 → X q = V q) ∧ VVc θ X c (faC v c us bd r (v.be + pp * v.ps) j e i (faJ p v c us bd r (v.be + pp * v.ps) j (s, vv)).2)) ⟨W, rfl, w1, w2⟩ (fun g i V1 hi hJ hgo2 => ?_) (fun g V1 hJ => ?_)
      · obtain ⟨X, rfl, x1, x2⟩ := hJ
        have hof := vOf_lt (v := v) (bd := bd) a3 hmod hj hi
        have hji : j * bd.d ≤ 8 * 4 := Nat.mul_le_mul (by omega) a4
        have hin' : i * (v.ps / bd.d) ≤ 4 * 8 := Nat.mul_le_mul (by omega) (by omega)
        show bl_P_addPart_51 _ _ _ _ _ _ _ _ _ _ _ _ _ _ _ _
        unfold bl_P_addPart_51
        simp only [bkU hθ hU hm, vpU hθ hU hv, true_and]
        obtain ⟨X0, XB⟩ := hV0 X x1 (pkR p bd (faJ p v c us bd r (v.be + pp * v.ps) j (s, vv)).1).2
        rw [XB, b2, X0, v1, pk_mul, pk_mul, nI_add, nI_add]
        refine br_f (nI_ge hi (by omega)) ?_
        have hmo : v.mo < 2 ^ 31 := by omega
        have fin : ∀ o : Nat, o = vOf v bd j i → wb_P_addPart_88 θ (tb θ + vp) (tb θ + 25) (tb θ + (106 + 5 * m)) x4 (tb θ + 103) (nI (v.be + pp * v.ps)) (nI (v.ps / bd.d)) (nI j) (nI e) (nI i) (nI o) (wl_P_addPart_27 θ (tb θ + vp) (tb θ + 25) (tb θ + (106 + 5 * m)) x4 (tb θ + 103) (nI (v.be + pp * v.ps)) (nI (v.ps / bd.d)) K f) (wl_P_addPart_51 θ (tb θ + vp) (tb θ + 25) (tb θ + (106 + 5 * m)) x4 (tb θ + 103) (nI (v.be + pp * v.ps)) (nI (v.ps / bd.d)) (nI j) (nI e) (wl_P_addPart_27 θ (tb θ + vp) (tb θ + 25) (tb θ + (106 + 5 * m)) x4 (tb θ + 103) (nI (v.be + pp * v.ps)) (nI (v.ps / bd.d)) K f) K g) K (cS θ X (pkR p bd (faJ p v c us bd r (v.be + pp * v.ps) j (s, vv)).1).2) U := by
          intro o ho
          subst ho
          unfold wb_P_addPart_88
          simp only [bkU hθ hU hm, vpU hθ hU hv, hR103, true_and, exists_eq_left, nI_add]
          have hcl := cell_lt (E := bd.E) (d := bd.d) he hi
          have hEd := Nat.mul_le_mul a2 a4
          rw [XB, b2, X0, X0, v1, v0, pk_mul, nI_add, nI_clamp (show e * bd.d + i < 2 ^ 31 by omega), cS_ne (show tb θ + (110 + 5 * m) ≠ tb θ + 25 by omega), x1 (tb θ + (110 + 5 * m)) (by omega) (by omega), b6 hh e i he hi]
          intro y17 e17
          subst e17
          refine ⟨by omega, vp_in_nI (by omega) (by decide), fun y23 e23 => ?_⟩
          subst e23
          -- the new values
          have go : ∀ ch x, vCell v c us r (v.be + pp * v.ps + vOf v bd j i) = (ch, x) → ch < c → x < 32 → ∀ V3, V3 = cS θ (up2 X (tb θ + (104 + ch)) x (X (tb θ + (104 + ch)) x + bd.cm e i)) (pkR p bd (faJ p v c us bd r (v.be + pp * v.ps) j (s, vv)).1).2 → ∀ y34 : Int32, y34 = nI i + 1 → wl_P_addPart_51 θ (tb θ + vp) (tb θ + 25) (tb θ + (106 + 5 * m)) x4 (tb θ + 103) (nI (v.be + pp * v.ps)) (nI (v.ps / bd.d)) (nI j) (nI e) (wl_P_addPart_27 θ (tb θ + vp) (tb θ + 25) (tb θ + (106 + 5 * m)) x4 (tb θ + 103) (nI (v.be + pp * v.ps)) (nI (v.ps / bd.d)) K f) K g y34 V3 U := by
            intro ch x hcx hch hx V3 h3 y34 e34
            rw [h3, e34, nI_1]
            refine hgo2 _ ⟨_, rfl, fun q a b => ?_, fun ch2 y hch2 hy => ?_⟩
            · have : q ≠ tb θ + (104 + ch) := by omega
              rw [up2_ne this]; exact x1 q a b
            · unfold faC
              rw [hcx]
              by_cases e1 : ch2 = ch
              · subst e1
                by_cases e2 : y = x
                · subst e2; rw [up2_aa, up2_aa, x2 ch2 y hch2 hy]
                · rw [up2_ab e2, up2_ab e2]; exact x2 ch2 y hch2 hy
              · rw [up2_ne (show tb θ + (104 + ch2) ≠ tb θ + (104 + ch) by omega), up2_ne e1]; exact x2 ch2 y hch2 hy
          refine ⟨fun q => ?_, fun q => ?_⟩
          · have hmo2 : v.mo ≠ 2 := fun z => q (by rw [z]; rfl)
            obtain ⟨hx4e, hx4l⟩ := hx4 hmo2
            rw [if_neg hmo2] at hcell
            obtain ⟨u1, u2⟩ := hUc _ (show vRc v us r < 2 by omega)
            rw [hx4e, nI_clamp (show vRc v us r < 2 ^ 31 by omega), u1, nI_clamp (show v.be + pp * v.ps + vOf v bd j i < 2 ^ 31 by omega)]
            refine ⟨vp_in_nI (by omega) (by decide), by omega, 32, (u2 32).2 rfl, vp_in_nI (by omega) (by decide), fun V33 h33 y34 e34 => ?_⟩
            rw [cS_ne (show tb θ + (104 + vRc v us r) ≠ tb θ + 25 by omega), cS_up (by omega)] at h33
            rw [hx4e] at go
            exact go (vRc v us r) _ (by unfold vCell; rw [if_neg hmo2]) hx4l (by omega) V33 h33 y34 e34
          · have hmo2 : v.mo = 2 := (nI_eq (b := 2) hmo (by decide)).1 q
            rw [if_pos hmo2] at hcell
            have hcm : (v.be + pp * v.ps + vOf v bd j i) % c < c := Nat.mod_lt _ hc0
            have hdl : (v.be + pp * v.ps + vOf v bd j i) / c < w := by
              rw [Nat.div_lt_iff_lt_mul hc0, Nat.mul_comm w c]; omega
            obtain ⟨u1, u2⟩ := hUc _ (show (v.be + pp * v.ps + vOf v bd j i) % c < 2 by omega)
            rw [pk_rem (by omega) hc0 (by omega), pk_div (by omega) hc0 (by omega), nI_clamp (show (v.be + pp * v.ps + vOf v bd j i) % c < 2 ^ 31 by omega), u1]
            refine ⟨nI_ne0 hc0 (by omega), vp_in_nI (by omega) (by decide), by omega, fun y40 e40 => ?_⟩
            subst e40
            rw [nI_clamp (show (v.be + pp * v.ps + vOf v bd j i) / c < 2 ^ 31 by omega)]
            refine ⟨32, (u2 32).2 rfl, vp_in_nI (by omega) (by decide), fun V44 h44 y45 e45 => ?_⟩
            rw [cS_ne (show tb θ + (104 + (v.be + pp * v.ps + vOf v bd j i) % c) ≠ tb θ + 25 by omega), cS_up (by omega)] at h44
            exact go _ _ (by unfold vCell; rw [if_pos hmo2]) hcm (by omega) V44 h44 y45 e45
        refine ⟨fun q => fin _ ?_, fun q => fin _ ?_⟩
        · unfold vOf; rw [if_neg (fun z => q (by rw [z]; rfl))]
        · unfold vOf; rw [if_pos ((nI_eq (b := 0) hmo (by decide)).1 q)]
      · obtain ⟨X, rfl, x1, x2⟩ := hJ
        show bl_P_addPart_51 _ _ _ _ _ _ _ _ _ _ _ _ _ _ _ _
        unfold bl_P_addPart_51
        simp only [bkU hθ hU hm, true_and]
        obtain ⟨X0, XB⟩ := hV0 X x1 (pkR p bd (faJ p v c us bd r (v.be + pp * v.ps) j (s, vv)).1).2
        rw [XB, b2]
        refine br_t (nI_le (Nat.le_refl _) (by omega)) (fun y hy => ?_)
        rw [hy, nI_1]
        exact hgo _ ⟨X, by rw [eJ], x1, by rw [eJ]; exact x2⟩
  · obtain ⟨W, rfl, w1, w2⟩ := hJ
    show bl_P_addPart_27 _ _ _ _ _ _ _ _ _ _ _ _ _
    unfold bl_P_addPart_27
    exact br_t (nI_le (Nat.le_refl _) (by omega)) (h W w1 w2)
end VALS
